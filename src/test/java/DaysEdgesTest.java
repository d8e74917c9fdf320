/** Section 4 of the Terms and promises 23 to 26: a test for each sentence that names an edge. */
public final class DaysEdgesTest {
    private static final int STATE = -3;
    private static final int UNKNOWN = -1;

    public static void main(String[] args) {
        dayOfNobody();
        leftOverBy65537();
        leftOverBy600();
        leastAndMostSeed();
        forPeopleWhoComeByNumbers();
        toldOnesDoNotMatter();
        dayByTheLaw();
        allButThePad();
        imageOfNobody();
        keptAnew();
        twoImages();
        asItWasWhenItWasKept();
        notKept();
        toldAtItsEdges();
        Due.finish();
    }

    private static void day(String when, FarthestFirst x, int seed, int worst, int sum) {
        Due.is(when + ": worst", x.day(seed, 0), worst);
        Due.is(when + ": sum", x.day(seed, 1), sum);
    }

    /** Who draws 180 minutes each, and all are alike: who comes first draws first. */
    private static FarthestFirst slow(int... people) {
        FarthestFirst x = new FarthestFirst();
        x.set(0, 20);
        for (int p : people) {
            x.come(p, 5, 0, 9, false);
        }
        return x;
    }

    private static void dayOfNobody() {
        Due.by("23: for PEOPLE who come");
        FarthestFirst x = new FarthestFirst();
        day("nobody", x, 0, 0, 0);
        day("nobody", x, 9999, 0, 0);
        x.come(7, 5, 0, 9, false);
        day("one", x, 1234, 0, 0);
    }

    private static void leftOverBy65537() {
        Due.by("23: (75 x and 74) left over by 65537");
        FarthestFirst x = slow(0, 1, 2);
        // 65474, 60886, 44471: 74, 286, 71.
        day("872, the last that is not over", x, 872, 177, 177 + 145);
        // 65549 leaves 12, then 974, 7587: 12, 374, 387.
        day("873, the first that is over", x, 873, 167, 167);
        // 40463, 20097, 65535: 263, 297, 135.
        day("3160, almost 65537", x, 3160, 198, 198 + 52);
    }

    private static void leftOverBy600() {
        Due.by("23: its coming is x left over by 600");
        FarthestFirst x = slow(0, 1);
        // 599 and 44999: both come at 599.
        day("7, the last minute, twice", x, 7, 180, 180);
        // 46238 and 60000: 38 and 0.
        day("3237, the first minute", x, 3237, 142, 142);
    }

    private static void leastAndMostSeed() {
        Due.by("23: a seed (0 to 9999)");
        FarthestFirst x = slow(0, 1, 2);
        // 74, 5624, 28652: 74, 224, 452.
        day("0", x, 0, 30, 30);
        // 149, 11249, 57305: 149, 449, 305.
        day("1", x, 1, 60, 60 + 24);
        // 29092, 19253, 2235: 292, 53, 435.
        day("9999", x, 9999, 37, 37);
    }

    private static void forPeopleWhoComeByNumbers() {
        Due.by("23: for PEOPLE who come, by numbers");
        day("two of them, by seed 0 at 74 and 224", slow(7, 0), 0, 30, 30);
        FarthestFirst x = slow(7, 2);
        x.come(2, 5, 0, 7, false);
        day("C, at 74, draws 140 minutes", x, 0, 0, 0);
        x.come(2, 5, 0, 9, false);
        x.come(7, 5, 0, 1, false);
        day("H, at 224, draws 20 minutes", x, 0, 30, 30);
        x.stays(2);
        x.come(3, 5, 0, 1, false);
        x.come(7, 5, 0, 9, false);
        day("D instead of C, at 74, draws 20 minutes", x, 0, 0, 0);
    }

    private static void toldOnesDoNotMatter() {
        Due.by("23: told ones do not matter; nothing changes in fact");
        FarthestFirst x = slow(0, 1, 2);
        int[] minutes = {0, 599, 999};
        for (int minute : minutes) {
            for (int p = 0; p < 3; p++) {
                x.come(p, 5, minute, 9, false);
            }
            day("told " + minute, x, 1, 60, 84);
            for (int p = 0; p < 3; p++) {
                Due.is("minute of " + p, x.person(p, 1), minute);
            }
            Due.is("worst in fact", x.all(0), 360);
        }
    }

    /** By seed 872 they come at 74, 286, 71 and 349. */
    private static void dayByTheLaw() {
        Due.by("23: WORST, SUM, by the law");
        FarthestFirst x = slow(0, 1, 2, 3);
        // C draws from 71 to 251, A to 431, B to 611, D to 791.
        day("who comes first", x, 872, 262, 177 + 145 + 262);
        x.come(3, 6, 0, 9, true);
        // D is ahead of B at 431.
        day("D is farther", x, 872, 325, 177 + 82 + 325);
        x.set(3, 1);
        day("not if it is halved", x, 872, 262, 177 + 145 + 262);
    }

    private static void allButThePad() {
        Due.by("24: all but the PAD is kept");
        FarthestFirst x = Due.eight();
        Due.say(x, "HG");
        Due.is("image", x.image(0), 1);
        x.wipe();
        x.restore(0);
        Due.is("a wiped pad stays wiped", x.told(0), 0);
        for (int i = 0; i < 40; i++) {
            x.say('!');
        }
        x.restore(0);
        Due.is("a full pad stays full", x.told(0), 40);
        Due.is("and refuses more", x.say('!'), -4);
        Due.is("its first sign", x.fault(), 0);
    }

    private static void imageOfNobody() {
        Due.by("24: an IMAGE of nobody");
        FarthestFirst x = new FarthestFirst();
        Due.is("image", x.image(1), 1);
        x.come(0, 1, 1, 1, false);
        x.set(0, 20);
        Due.is("restore", x.restore(1), 1);
        Due.is("nobody", x.told(5), 0);
        Due.is("not A", x.person(0, 0), UNKNOWN);
        Due.is("draw", x.told(1), 2);
        Due.is("A comes first again", x.come(0, 1, 1, 1, false), 1);
    }

    private static void keptAnew() {
        Due.by("24: kept in an IMAGE that was kept before");
        FarthestFirst x = Due.eight();
        x.image(0);
        x.stays(0);
        Due.is("image again", x.image(0), 1);
        x.stays(1);
        x.restore(0);
        Due.is("as it was the second time", x.told(5), 254);
    }

    private static void twoImages() {
        Due.by("24: an IMAGE (0, 1)");
        FarthestFirst x = Due.eight();
        x.image(0);
        x.stays(0);
        x.image(1);
        x.stays(1);
        Due.is("restore 0", x.restore(0), 1);
        Due.is("as it was at 0", x.told(5), 255);
        Due.is("restore 1", x.restore(1), 1);
        Due.is("as it was at 1", x.told(5), 254);
        Due.is("restore 0 again", x.restore(0), 1);
        Due.is("as it was at 0 again", x.told(5), 255);
    }

    private static void asItWasWhenItWasKept() {
        Due.by("25: it is as it was when it was kept");
        FarthestFirst x = new FarthestFirst();
        x.come(0, 99, 999, 9, true);
        x.come(7, 0, 0, 1, false);
        int[] most = {20, 9, 9, 1};
        for (int which = 0; which < 4; which++) {
            x.set(which, most[which]);
        }
        String kept = Due.seen(x);
        x.image(0);
        for (int time = 0; time < 3; time++) {
            x.come(0, 1, 2, 3, false);
            x.come(1, 1, 2, 3, false);
            x.stays(7);
            for (int which = 0; which < 4; which++) {
                x.set(which, which == 0 ? 1 : 0);
            }
            Due.is("restore", x.restore(0), 1);
            Due.holds("as it was, time " + time, Due.seen(x).equals(kept));
        }
        Due.is("the well, too", x.all(3), 1179);
    }

    private static void notKept() {
        Due.by("25: STATE: it was not");
        FarthestFirst x = new FarthestFirst();
        Due.is("neither: 0", x.restore(0), STATE);
        Due.is("neither: 1", x.restore(1), STATE);
        x.image(1);
        Due.is("1 is kept: 0", x.restore(0), STATE);
        Due.is("1 is kept: 1", x.restore(1), 1);
        Due.is("restored 1: 0", x.restore(0), STATE);
        x.image(0);
        Due.is("0 is kept: 0", x.restore(0), 1);
        Due.is("restored 0, kept before 1: 1", x.restore(1), 1);
        FarthestFirst refused = new FarthestFirst();
        refused.image(2);
        refused.image(-1);
        Due.is("2 was refused: 0", refused.restore(0), STATE);
        Due.is("-1 was refused: 1", refused.restore(1), STATE);
    }

    private static void toldAtItsEdges() {
        Due.by("26: 0 signs, 1 DRAW, 2 FAR, 3 STOOD, 4 HALVED, 5 PEOPLE who come (bits)");
        FarthestFirst x = new FarthestFirst();
        int[] least = {0, 1, 0, 0, 0, 0};
        int[] most = {40, 20, 9, 9, 1, 255};
        x.set(0, 1);
        x.set(1, 0);
        for (int what = 0; what < 6; what++) {
            Due.is("least of " + what, x.told(what), least[what]);
        }
        for (int i = 0; i < 41; i++) {
            x.say('A');
        }
        for (int which = 0; which < 4; which++) {
            x.set(which, most[which + 1]);
        }
        for (int p = 0; p < 8; p++) {
            x.come(p, 1, 1, 1, false);
        }
        for (int what = 0; what < 6; what++) {
            Due.is("most of " + what, x.told(what), most[what]);
        }
        for (int p = 1; p < 8; p++) {
            x.stays(p);
        }
        Due.is("A alone", x.told(5), 1);
        x.come(7, 1, 1, 1, false);
        x.stays(0);
        Due.is("H alone", x.told(5), 128);
    }
}
