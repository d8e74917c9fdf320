/** Section 3 of the Terms and promises 17 to 22: a test for each sentence that names an edge. */
public final class LiarsEdgesTest {
    private static final int NONE = -6;
    private static final int NO = -5;

    public static void main(String[] args) {
        thoseToldToo();
        nobodyCanHaveLied();
        noFaultAndAllTold();
        leastAndGreatest();
        couldNone();
        couldNeedsAllTold();
        notBothNothing();
        threeAtMost();
        threeAtLeast();
        worstBeforeSum();
        ofTheseSum();
        halvedAsItIs();
        firstHome();
        homeWithRent();
        wellsForNobody();
        wellsForWhoCome();
        wellsByWorstBeforeSum();
        wellsBySum();
        wellsByLeastSet();
        nobodyMustStay();
        fewestMustStay();
        leastSetMustStay();
        liarsByTheLaw();
        othersByTheLaw();
        Due.finish();
    }

    private static void thoseToldToo() {
        Due.by("17: some MILES (those told, too)");
        FarthestFirst x = Due.eight();
        Due.say(x, "HGFEDCBA");
        Due.is("the order as it is: all eight", x.lied(), 255);
        FarthestFirst one = new FarthestFirst();
        one.come(5, 99, 999, 9, true);
        one.say('F');
        Due.is("one", one.lied(), 32);
        FarthestFirst none = new FarthestFirst();
        Due.is("nobody, an empty row", none.lied(), 0);
    }

    private static void nobodyCanHaveLied() {
        Due.by("17: all others being as told");
        FarthestFirst x = Due.eight();
        Due.say(x, "ABCDEFGH");
        Due.is("nobody alone can turn the order", x.lied(), 0);
        x.wipe();
        Due.say(x, "GHFEDCBA");
        Due.is("G alone, or H alone", x.lied(), 64 + 128);
        x.wipe();
        Due.say(x, "AHGFEDCB");
        Due.is("A alone", x.lied(), 1);
        x.stays(0);
        x.wipe();
        Due.say(x, "HGFEDCB");
        Due.is("A does not come", x.lied(), 254);
    }

    private static void noFaultAndAllTold() {
        Due.by("17: NO: there is a FAULT, or not all are told");
        FarthestFirst x = Due.eight();
        String[] rows = {"", "H", "HGFEDCB", "HGFEDCBB", "HGFEDCBI", "HGFEDCB@", "HGFEDCBa", "HGFEDCBAA", "HGFEDCBA!"};
        for (String row : rows) {
            Due.say(x, row);
            Due.is("row " + row, x.lied(), NO);
            x.wipe();
        }
        Due.say(x, "HGFEDCBA");
        x.stays(0);
        Due.is("A no longer comes", x.lied(), NO);
        x.come(0, 0, 0, 1, false);
        Due.is("A comes again", x.lied(), 255);
        FarthestFirst none = new FarthestFirst();
        none.say('A');
        Due.is("nobody, but one is told", none.lied(), NO);
    }

    private static void leastAndGreatest() {
        Due.by("18: the least, the greatest MILES that a PERSON can have had");
        FarthestFirst x = new FarthestFirst();
        x.come(0, 50, 0, 2, false);
        x.come(1, 98, 1, 1, false);
        x.come(2, 0, 2, 1, false);
        could(x, "ABC", 0, 0, 99);
        could(x, "ABC", 1, 0, 99);
        could(x, "ABC", 2, 0, 98);
        could(x, "ACB", 2, 99, 99);
        x.come(1, 0, 1, 1, false);
        could(x, "ABC", 2, 0, 0);
        could(x, "ACB", 2, 1, 99);
        x.set(3, 1);
        x.come(2, 0, 2, 1, true);
        could(x, "ABC", 2, 0, 1);
        could(x, "ACB", 2, 2, 99);
    }

    private static void could(FarthestFirst x, String row, int person, int least, int greatest) {
        x.wipe();
        Due.say(x, row);
        Due.is(row + ", least of " + person, x.could(person, 0), least);
        Due.is(row + ", greatest of " + person, x.could(person, 1), greatest);
    }

    private static void couldNone() {
        Due.by("18: NONE: none");
        FarthestFirst x = new FarthestFirst();
        x.come(0, 50, 0, 2, false);
        x.come(1, 99, 1, 1, false);
        x.come(2, 0, 2, 1, false);
        could(x, "ACB", 2, NONE, NONE);
        could(x, "ACB", 0, NONE, NONE);
        could(x, "BAC", 1, NONE, NONE);
        x.set(1, 0);
        could(x, "ACB", 1, NONE, NONE);
        could(x, "ABC", 1, 0, 99);
    }

    private static void couldNeedsAllTold() {
        Due.by("18: NO, likewise");
        FarthestFirst x = Due.eight();
        for (String row : new String[] {"", "HGFEDCB", "HGFEDCBB", "HGFEDCBI", "HGFEDCBAA"}) {
            Due.say(x, row);
            Due.is("least, row " + row, x.could(0, 0), NO);
            Due.is("greatest, row " + row, x.could(0, 1), NO);
            x.wipe();
        }
    }

    private static void law(String when, FarthestFirst x, int far, int stood, int worst) {
        Due.is(when + ": far", x.law(0), far);
        Due.is(when + ": stood", x.law(1), stood);
        Due.is(when + ": worst", x.law(2), worst);
    }

    private static void notBothNothing() {
        Due.by("19: not both 0; the first by 4 times FAR and STOOD");
        FarthestFirst x = new FarthestFirst();
        law("nobody", x, 0, 1, 0);
        x.come(7, 99, 999, 9, true);
        law("one", x, 0, 1, 0);
        x.set(1, 0);
        law("one, nothing counts", x, 0, 1, 0);
        x.come(0, 0, 0, 2, false);
        x.come(1, 0, 1, 9, false);
        x.come(2, 1, 2, 1, false);
        law("C ahead of B", x, 1, 0, 5);
    }

    private static void threeAtMost() {
        Due.by("19: FAR, STOOD (0 to 3 each): not 4");
        FarthestFirst x = new FarthestFirst();
        // D should be behind C at 9 (FAR and 7 STOOD against 2 FAR and STOOD: FAR is 6 STOOD at most)
        // and behind B at 11 (3 FAR against 2 FAR and 3 STOOD: FAR is more than 3 STOOD).
        x.come(0, 6, 1, 4, false);
        x.come(1, 3, 11, 2, false);
        x.come(2, 1, 2, 1, false);
        x.come(3, 2, 8, 9, false);
        law("far 4 would do better", x, 0, 1, 18);
        x.set(1, 4);
        x.set(2, 1);
        Due.is("worst by far 4", x.all(0), 7);
        law("though it is the law", x, 0, 1, 18);
        // C should be ahead of D at 6 (5 FAR and STOOD against 2 STOOD: STOOD is less than 5 FAR)
        // and D ahead of B at 10 (6 STOOD against 4 FAR and 5 STOOD: STOOD is 4 FAR at least).
        x.come(0, 3, 2, 2, false);
        x.come(1, 4, 5, 6, false);
        x.come(2, 5, 5, 2, false);
        x.come(3, 0, 4, 2, false);
        law("stood 4 would do better", x, 0, 1, 17);
        x.set(1, 1);
        x.set(2, 4);
        Due.is("worst by stood 4", x.all(0), 9);
    }

    private static void threeAtLeast() {
        Due.by("19: FAR, STOOD (0 to 3 each): 3, too");
        FarthestFirst x = new FarthestFirst();
        // B 7 against D 6 at 8, C 17 against D 16 at 18.
        x.come(0, 4, 0, 4, false);
        x.come(1, 1, 4, 5, false);
        x.come(2, 3, 10, 1, false);
        x.come(3, 2, 8, 6, false);
        law("far 3", x, 3, 1, 12);
        // D 18 against 16 and 16 at 14, C 28 against A 28 at 18, C came first.
        x.come(0, 4, 10, 7, false);
        x.come(1, 0, 6, 4, false);
        x.come(2, 1, 9, 3, false);
        x.come(3, 6, 10, 2, false);
        law("stood 3", x, 1, 3, 14);
    }

    private static void worstBeforeSum() {
        Due.by("19: by which WORST is least");
        FarthestFirst x = new FarthestFirst();
        x.come(0, 0, 0, 2, false);
        x.come(1, 0, 1, 2, false);
        for (int p = 2; p < 6; p++) {
            x.come(p, 1, 2 * p, 1, false);
        }
        // By miles alone B waits till 12, and nobody else waits; else it draws 4 to 8, and each behind it waits 4.
        Due.is("B waits by miles", x.all(0), 11);
        Due.is("and nobody else", x.all(2), 11);
        law("4 at worst, though 19 in all and not 11", x, 0, 1, 4);
        x.set(1, 0);
        x.set(2, 1);
        Due.is("by that law in all", x.all(2), 19);
    }

    private static void ofTheseSum() {
        Due.by("19: of these SUM");
        FarthestFirst x = new FarthestFirst();
        x.come(0, 8, 4, 2, false);
        x.come(1, 8, 8, 1, false);
        x.come(2, 0, 6, 2, false);
        law("4 at worst by both, 4 in all and not 6", x, 1, 0, 4);
    }

    private static void halvedAsItIs() {
        Due.by("19: HALVED as it is");
        FarthestFirst x = new FarthestFirst();
        x.come(0, 0, 0, 5, false);
        x.come(1, 9, 9, 1, true);
        x.come(2, 5, 4, 9, false);
        law("not halved", x, 1, 0, 8);
        x.set(3, 1);
        law("halved", x, 0, 1, 19);
        Due.is("halved still", x.told(4), 1);
    }

    private static void home(String when, FarthestFirst x, int rent, int miles, int together) {
        Due.is(when + ": miles", x.home(2, rent, 0), miles);
        Due.is(when + ": wait and rent", x.home(2, rent, 1), together);
    }

    private static void firstHome() {
        Due.by("20: MILES m (0 to 99), the first");
        FarthestFirst x = new FarthestFirst();
        x.come(2, 50, 2, 1, false);
        home("alone", x, 0, 0, 0);
        x.come(0, 0, 0, 2, false);
        x.come(1, 98, 1, 1, false);
        home("99 against 98", x, 0, 99, 2);
        x.come(1, 99, 1, 1, false);
        home("99 against 99 who came first", x, 0, 0, 4);
        x.come(1, 30, 1, 1, false);
        home("31 against 30", x, 0, 31, 2);
        x.come(1, 0, 1, 1, false);
        home("1 against 0", x, 0, 1, 2);
        x.come(1, 0, 3, 1, false);
        home("0 against 0 who came later", x, 0, 0, 2);
        Due.is("in truth", x.person(2, 0), 50);
    }

    private static void homeWithRent() {
        Due.by("20: a RENT of r (0 to 99) for each of 99 less m");
        FarthestFirst x = new FarthestFirst();
        x.come(0, 0, 0, 2, false);
        x.come(1, 30, 1, 1, false);
        x.come(2, 50, 2, 1, false);
        home("1", x, 1, 99, 2);
        home("99", x, 99, 99, 2);
        x.come(1, 99, 1, 1, false);
        home("1, who waits anyway", x, 1, 99, 4);
    }

    private static void wells(String when, FarthestFirst x, int set, int worst, int sum) {
        Due.is(when + ": set", x.two(0), set);
        Due.is(when + ": worst", x.two(1), worst);
        Due.is(when + ": sum", x.two(2), sum);
    }

    private static void wellsForNobody() {
        Due.by("21: some go to the second one");
        FarthestFirst x = new FarthestFirst();
        wells("nobody", x, 0, 0, 0);
        x.come(7, 1, 1, 1, false);
        wells("one", x, 0, 0, 0);
        x.come(6, 1, 3, 1, false);
        wells("two who do not meet", x, 0, 0, 0);
        x.come(6, 1, 2, 1, false);
        wells("two who meet", x, 64, 0, 0);
        x.stays(6);
        x.stays(7);
        wells("nobody again", x, 0, 0, 0);
    }

    /** A at the well before them would help B and C, who have come by 2 then. */
    private static void wellsForWhoCome() {
        Due.by("21: some (of those who come)");
        FarthestFirst x = new FarthestFirst();
        x.come(0, 0, 0, 1, false);
        x.stays(0);
        x.come(1, 1, 1, 9, false);
        x.come(2, 9, 2, 1, false);
        x.come(3, 1, 1, 9, false);
        wells("without A", x, 2, 17, 17);
        Due.by("22: who must not come (of those who come)");
        Due.is("one of B and D waits 18 or 20", x.stay(17), 2);
        Due.is("C, too, waits 17", x.stay(16), 2 + 4);
    }

    private static void wellsByWorstBeforeSum() {
        Due.by("21: WORST of both is least");
        FarthestFirst x = new FarthestFirst();
        x.come(0, 0, 2, 1, false);
        x.come(1, 0, 0, 3, false);
        x.come(2, 0, 0, 4, false);
        x.come(3, 0, 5, 4, false);
        // B and C at one well: C alone waits, 6. A waits 4 behind B, and D 3 behind C.
        wells("4 at worst, though 7 in all and not 6", x, 1 + 2, 4, 7);
    }

    private static void wellsBySum() {
        Due.by("21: of several by SUM");
        FarthestFirst x = new FarthestFirst();
        x.come(0, 1, 0, 1, false);
        x.come(1, 1, 0, 1, false);
        x.come(2, 1, 500, 2, false);
        x.come(3, 1, 500, 2, false);
        x.come(4, 1, 500, 2, false);
        wells("one of three must wait 4, A and B need not", x, 1 + 4, 4, 4);
    }

    private static void wellsByLeastSet() {
        Due.by("21: then the least");
        FarthestFirst x = Due.eight();
        wells("eight alike: four and four", x, 15, 6, 24);
        x.come(7, 7, 0, 9, false);
        wells("H first, for 18 minutes: it alone, or the seven", x, 127, 12, 42);
        FarthestFirst slow = new FarthestFirst();
        slow.set(0, 20);
        for (int p = 0; p < 8; p++) {
            slow.come(p, 99, 999, 9, true);
        }
        wells("as slow as can be", slow, 15, 540, 2160);
    }

    private static void nobodyMustStay() {
        Due.by("22: so that nobody waits more than k minutes");
        FarthestFirst none = new FarthestFirst();
        Due.is("nobody comes", none.stay(0), 0);
        FarthestFirst x = new FarthestFirst();
        x.set(0, 20);
        for (int p = 0; p < 8; p++) {
            x.come(p, 99, 999, 9, true);
        }
        Due.is("as slow as can be, 9999", x.stay(9999), 0);
        Due.is("as slow as can be, 1260", x.stay(1260), 0);
        Due.is("as slow as can be, 1259", x.stay(1259), 1);
        Due.is("1080", x.stay(1080), 1);
        Due.is("1079", x.stay(1079), 3);
        Due.is("180", x.stay(180), 63);
        Due.is("179", x.stay(179), 127);
        Due.is("0", x.stay(0), 127);
        Due.is("they come still", x.told(5), 255);
    }

    private static void fewestMustStay() {
        Due.by("22: the fewest");
        FarthestFirst x = new FarthestFirst();
        x.come(7, 9, 0, 9, false);
        x.come(6, 1, 1, 1, false);
        x.come(5, 1, 3, 1, false);
        Due.is("H alone, not F and G", x.stay(0), 128);
        Due.is("17 minutes, as G and F wait", x.stay(17), 0);
        Due.is("16 minutes: without G, F waits 15", x.stay(16), 64);
    }

    private static void leastSetMustStay() {
        Due.by("22: of several sets the least as bits");
        FarthestFirst x = new FarthestFirst();
        x.come(1, 1, 0, 1, false);
        x.come(4, 1, 0, 1, false);
        Due.is("B or E", x.stay(0), 2);
        x.come(6, 1, 0, 1, false);
        Due.is("two of three", x.stay(0), 2 + 16);
        Due.is("one of three", x.stay(2), 2);
    }

    private static void liarsByTheLaw() {
        Due.by("17, 18: all others being as told, and the law");
        FarthestFirst x = Due.three();
        could(x, "ABC", 0, 0, 99);
        could(x, "ABC", 1, 3, 99);
        could(x, "ABC", 2, 0, 8);
        Due.is("the order as it is", x.lied(), 7);
        could(x, "ACB", 0, NONE, NONE);
        could(x, "ACB", 1, 0, 2);
        could(x, "ACB", 2, 9, 99);
        Due.is("B or C", x.lied(), 2 + 4);
    }

    private static void othersByTheLaw() {
        FarthestFirst x = Due.three();
        Due.by("19: DRAW as it is");
        law("8 minutes for B and C", x, 0, 1, 8);
        Due.by("20 to 22: by the law");
        home("C at 9 miles", x, 0, 9, 3);
        Due.is("B at 3 miles", x.home(1, 0, 0), 3);
        Due.is("wait of B", x.home(1, 0, 1), 8);
        wells("A, or B and C", x, 1, 0, 0);
        Due.is("nobody waits more than 8", x.stay(8), 0);
        Due.is("without A nobody waits", x.stay(7), 1);
    }
}
