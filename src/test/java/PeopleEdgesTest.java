/** Section 1 of the Terms and promises 1 to 8: a test for each sentence that names an edge. */
public final class PeopleEdgesTest {
    private static final int UNKNOWN = -1;
    private static final int FULL = -4;
    private static final int NONE = -6;

    public static void main(String[] args) {
        nobodyComes();
        asSetAtFirst();
        nothingSaidOrKeptAtFirst();
        howManyCome();
        orOtherwiseIfItCame();
        leastAndMostAreHeld();
        doesNotCome();
        norDid();
        whoComes();
        whichItWas();
        upToFortySigns();
        signsGo();
        noFault();
        firstSignThatCanNotStand();
        lettersOfPeople();
        peopleWhoCome();
        noneTwice();
        fiveHundredAndTwelveCalls();
        Due.finish();
    }

    private static void nobodyComes() {
        Due.by("1: nobody comes");
        FarthestFirst x = new FarthestFirst();
        Due.is("who", x.told(5), 0);
        Due.is("served", x.served(-1), 0);
        Due.is("the first", x.served(0), NONE);
        Due.is("worst", x.all(0), 0);
        Due.is("whose", x.all(1), NONE);
        Due.is("sum", x.all(2), 0);
        for (int p = 0; p < 8; p++) {
            Due.is("stays " + p, x.stays(p), UNKNOWN);
            Due.is("waits " + p, x.waits(p, 0), UNKNOWN);
        }
        Due.is("the first to come", x.come(4, 1, 1, 1, false), 1);
    }

    private static void asSetAtFirst() {
        Due.by("1: DRAW 2 at first, FAR 1 at first, STOOD 0 at first, HALVED");
        int[] first = {2, 1, 0, 0};
        for (int which = 0; which < 4; which++) {
            Due.is("told " + which, new FarthestFirst().told(which + 1), first[which]);
            Due.is("set " + which, new FarthestFirst().set(which, 1), first[which]);
        }
    }

    private static void nothingSaidOrKeptAtFirst() {
        Due.by("1: a new object");
        FarthestFirst other = new FarthestFirst();
        other.come(0, 1, 1, 1, false);
        other.say('A');
        other.image(0);
        FarthestFirst x = new FarthestFirst();
        Due.is("signs", x.told(0), 0);
        Due.is("image 0", x.restore(0), -3);
        Due.is("image 1", x.restore(1), -3);
        Due.is("who", x.told(5), 0);
        Due.is("of the other one", other.told(5), 1);
    }

    private static void howManyCome() {
        Due.by("2: how many come");
        FarthestFirst x = new FarthestFirst();
        int[] people = {7, 0, 3, 1, 6, 2, 5, 4};
        int bits = 0;
        for (int i = 0; i < 8; i++) {
            bits |= 1 << people[i];
            Due.is("come of " + people[i], x.come(people[i], 1, 1, 1, false), i + 1);
            Due.is("who", x.told(5), bits);
        }
        for (int p = 0; p < 8; p++) {
            Due.is("all come, and " + p + " again", x.come(p, 2, 2, 2, true), 8);
        }
    }

    private static void orOtherwiseIfItCame() {
        Due.by("2: or otherwise, if it came");
        FarthestFirst x = new FarthestFirst();
        x.come(5, 99, 999, 9, true);
        Due.is("as many", x.come(5, 0, 0, 1, false), 1);
        int[] due = {0, 0, 1, 0};
        for (int what = 0; what < 4; what++) {
            Due.is("person(5, " + what + ")", x.person(5, what), due[what]);
        }
        Due.is("the well", x.waits(5, 1), 2);
    }

    private static void leastAndMostAreHeld() {
        Due.by("1: from MILES (0 to 99), at a minute (0 to 999), with PAILS (1 to 9), with a CART or without");
        FarthestFirst x = new FarthestFirst();
        x.come(0, 0, 0, 1, false);
        x.come(7, 99, 999, 9, true);
        int[] least = {0, 0, 1, 0};
        int[] most = {99, 999, 9, 1};
        for (int what = 0; what < 4; what++) {
            Due.is("least " + what, x.person(0, what), least[what]);
            Due.is("most " + what, x.person(7, what), most[what]);
        }
    }

    private static void doesNotCome() {
        Due.by("3: a PERSON does not come: how many come");
        FarthestFirst x = Due.eight();
        int[] people = {7, 0, 3, 1, 6, 2, 5, 4};
        int bits = 255;
        for (int i = 0; i < 8; i++) {
            bits &= ~(1 << people[i]);
            Due.is("stays of " + people[i], x.stays(people[i]), 7 - i);
            Due.is("who", x.told(5), bits);
            Due.is("served", x.served(-1), 7 - i);
        }
    }

    private static void norDid() {
        Due.by("3: UNKNOWN: nor did");
        FarthestFirst x = new FarthestFirst();
        x.come(2, 1, 1, 1, false);
        Due.is("never came", x.stays(3), UNKNOWN);
        Due.is("stays", x.stays(2), 0);
        Due.is("stays twice", x.stays(2), UNKNOWN);
        Due.is("comes again", x.come(2, 1, 1, 1, false), 1);
        Due.is("stays again", x.stays(2), 0);
    }

    private static void whoComes() {
        Due.by("4: of a PERSON who comes");
        FarthestFirst x = new FarthestFirst();
        Due.is("nobody", x.person(0, 0), UNKNOWN);
        x.come(1, 5, 6, 7, true);
        Due.is("the one before", x.person(0, 0), UNKNOWN);
        Due.is("who comes", x.person(1, 0), 5);
        Due.is("the one behind", x.person(2, 0), UNKNOWN);
        x.stays(1);
        for (int what = 0; what < 4; what++) {
            Due.is("who came, what " + what, x.person(1, what), UNKNOWN);
        }
    }

    private static void whichItWas() {
        Due.by("5: which it was");
        FarthestFirst x = new FarthestFirst();
        int[] least = {1, 0, 0, 0};
        int[] most = {20, 9, 9, 1};
        for (int which = 0; which < 4; which++) {
            x.set(which, most[which]);
            Due.is("most, then least", x.set(which, least[which]), most[which]);
            Due.is("least, then most", x.set(which, most[which]), least[which]);
            Due.is("the same again", x.set(which, most[which]), most[which]);
        }
        for (int which = 0; which < 4; which++) {
            Due.is("no other one changed", x.told(which + 1), most[which]);
        }
    }

    private static void upToFortySigns() {
        Due.by("6: a PAD of up to 40 signs");
        FarthestFirst x = new FarthestFirst();
        for (int i = 1; i <= 40; i++) {
            Due.is("sign " + i, x.say(i == 40 ? 126 : 33), i);
        }
        Due.is("sign 41", x.say(33), FULL);
        Due.is("and again", x.say(126), FULL);
        Due.is("signs", x.told(0), 40);
        x.wipe();
        Due.is("the first again", x.say(33), 1);
    }

    private static void signsGo() {
        Due.by("7: signs go: how many there were");
        FarthestFirst x = Due.eight();
        Due.is("none", x.wipe(), 0);
        x.say('A');
        Due.is("one", x.wipe(), 1);
        Due.is("none again", x.wipe(), 0);
        for (int i = 0; i < 41; i++) {
            x.say('A');
        }
        Due.is("as many as there can be", x.wipe(), 40);
        Due.is("no sign", x.told(0), 0);
        Due.is("no fault", x.fault(), NONE);
        Due.is("who still come", x.told(5), 255);
        x.say('B');
        Due.is("what was said before is not told", x.fault(), NONE);
    }

    private static void noFault() {
        Due.by("8: NONE");
        FarthestFirst x = new FarthestFirst();
        Due.is("an empty row, nobody comes", x.fault(), NONE);
        x = Due.eight();
        Due.is("an empty row", x.fault(), NONE);
        for (char letter = 'A'; letter <= 'H'; letter++) {
            x.say(letter);
            Due.is("up to " + letter, x.fault(), NONE);
        }
    }

    private static void firstSignThatCanNotStand() {
        Due.by("8: the place (from 0 on) of the first sign that can not stand there");
        FarthestFirst x = Due.eight();
        x.say('?');
        Due.is("the very first", x.fault(), 0);
        x.say('?');
        Due.is("a second one", x.fault(), 0);
        x.wipe();
        Due.say(x, "ABCDEFGHA");
        Due.is("the last place it can be at", x.fault(), 8);
        for (int i = 0; i < 31; i++) {
            x.say('!');
        }
        Due.is("a full pad", x.fault(), 8);
    }

    private static void lettersOfPeople() {
        Due.by("8: letters of PEOPLE (A to H)");
        FarthestFirst x = Due.eight();
        for (int sign = 33; sign <= 126; sign++) {
            x.say(sign);
            Due.is("sign " + sign, x.fault(), sign >= 65 && sign <= 72 ? NONE : 0);
            x.wipe();
        }
    }

    private static void peopleWhoCome() {
        Due.by("8: letters of PEOPLE who come");
        for (int p = 0; p < 8; p++) {
            FarthestFirst x = Due.eight();
            x.say('A' + (p + 1) % 8);
            x.say('A' + p);
            Due.is(p + " comes", x.fault(), NONE);
            x.stays(p);
            Due.is(p + " does not", x.fault(), 1);
            x.come(p, 1, 1, 1, false);
            Due.is(p + " comes again", x.fault(), NONE);
        }
    }

    private static void noneTwice() {
        Due.by("8: none twice");
        for (int p = 0; p < 8; p++) {
            FarthestFirst x = Due.eight();
            x.say('A' + p);
            x.say('A' + (p + 1) % 8);
            x.say('A' + p);
            Due.is(p + " told again", x.fault(), 2);
            x.wipe();
            x.say('A' + p);
            x.say('A' + p);
            Due.is(p + " told again at once", x.fault(), 1);
        }
    }

    private static void fiveHundredAndTwelveCalls() {
        Due.by("an object is used for at most 512 calls");
        FarthestFirst x = Due.eight();
        for (int call = 9; call < 511; call++) {
            Due.is("call " + call, x.come(call % 8, 99, 999, 9, true), 8);
        }
        x.set(0, 20);
        Due.is("the last call", x.all(3), 999 + 8 * 180);
    }
}
