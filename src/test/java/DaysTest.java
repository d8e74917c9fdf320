/** Promises 23 to 26: day, image, restore, told. */
public final class DaysTest {
    private static final int MIN = Integer.MIN_VALUE;
    private static final int MAX = Integer.MAX_VALUE;

    public static void main(String[] args) {
        day();
        image();
        restore();
        told();
        Due.finish();
    }

    private static void day() {
        FarthestFirst x = new FarthestFirst();
        Due.is("nobody: worst", x.day(0, 0), 0);
        Due.is("nobody: sum", x.day(9999, 1), 0);
        x.set(0, 20);
        // By seed 0 they come at 74, 224 (5624) and 452 (28652).
        x.come(6, 1, 999, 9, false);
        x.come(1, 2, 999, 9, false);
        x.come(4, 3, 999, 9, false);
        Due.is("B draws 74 to 254, E waits from 224, G comes at 452", x.day(0, 0), 30);
        Due.is("their sum", x.day(0, 1), 30);
        Due.is("as they are", x.all(0), 360);
        Due.is("nothing changes", x.person(1, 1), 999);
        x.come(4, 3, 0, 9, true);
        Due.is("the told minute does not matter", x.day(0, 0), 30);
        x.stays(1);
        Due.is("E at 74, G at 224", x.day(0, 1), 30);
        x.come(4, 3, 0, 7, true);
        Due.is("E draws 74 to 214", x.day(0, 1), 0);
        for (int bad : new int[] {-1, 10000, MIN, MAX}) {
            Due.is("seed " + bad, x.day(bad, 0), -2);
        }
        for (int what : new int[] {-1, 2, MIN, MAX}) {
            Due.is("day what " + what, x.day(0, what), -2);
        }
    }

    private static void image() {
        FarthestFirst x = new FarthestFirst();
        Due.is("image 0", x.image(0), 1);
        for (int bad : new int[] {-1, 2, MIN, MAX}) {
            Due.is("image " + bad, x.image(bad), -2);
        }
        Due.is("the other was not kept", x.restore(1), -3);
        x.come(1, 1, 1, 1, true);
        Due.is("image 0 anew", x.image(0), 1);
        x.stays(1);
        x.come(2, 2, 2, 2, false);
        Due.is("image 1", x.image(1), 1);
        x.restore(0);
        Due.is("0 was kept anew", x.told(5), 2);
        x.restore(1);
        Due.is("1 is another", x.told(5), 4);
        Due.is("of its own", x.person(2, 0), 2);
    }

    private static void restore() {
        FarthestFirst x = new FarthestFirst();
        for (int bad : new int[] {-1, 2, MIN, MAX}) {
            Due.is("restore " + bad, x.restore(bad), -2);
        }
        Due.is("not kept", x.restore(0), -3);
        x.come(3, 31, 32, 3, true);
        x.set(0, 5);
        x.set(1, 6);
        x.set(2, 7);
        x.set(3, 1);
        Due.say(x, "DAY");
        x.image(0);
        x.come(3, 41, 42, 4, false);
        x.come(4, 1, 1, 1, false);
        x.set(0, 1);
        x.set(1, 2);
        x.set(2, 3);
        x.set(3, 0);
        Due.say(x, "S");
        for (int time = 0; time < 2; time++) {
            Due.is("restore", x.restore(0), 1);
            int[] person = {31, 32, 3, 1};
            for (int what = 0; what < 4; what++) {
                Due.is("restored: person " + what, x.person(3, what), person[what]);
            }
            int[] told = {4, 5, 6, 7, 1, 8};
            for (int what = 0; what < 6; what++) {
                Due.is("restored but for the pad: told " + what, x.told(what), told[what]);
            }
            Due.is("who came since then", x.person(4, 0), -1);
            x.come(3, 51, 52, 5, false);
            x.set(0, 19);
            x.set(1, 9);
            x.set(2, 9);
            x.set(3, 0);
            x.come(0, 1, 1, 1, false);
        }
        x.restore(0);
        x.wipe();
        x.restore(0);
        Due.is("a wiped pad stays wiped", x.told(0), 0);
    }

    private static void told() {
        FarthestFirst x = new FarthestFirst();
        x.set(0, 3);
        x.set(1, 4);
        x.set(2, 5);
        x.set(3, 1);
        x.come(0, 1, 1, 1, false);
        x.come(7, 1, 1, 1, false);
        Due.say(x, "AB");
        int[] due = {2, 3, 4, 5, 1, 129};
        for (int what = 0; what < due.length; what++) {
            Due.is("told " + what, x.told(what), due[what]);
        }
        for (int what : new int[] {-1, 6, MIN, MAX}) {
            Due.is("told " + what, x.told(what), -2);
        }
    }
}
