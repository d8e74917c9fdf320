/** THE WELL, section 2 of the Terms and promises 9 to 16: a test for each sentence that names an edge. */
public final class WellEdgesTest {
    private static final int NONE = -6;
    private static final int NO = -5;

    public static void main(String[] args) {
        wellBegins();
        atThatMinuteToo();
        whoCameFirst();
        thenByNumbers();
        freeTillSomebodyComes();
        halvedCut();
        halvedForCartsAlone();
        greatestClaims();
        nothingCounts();
        waitAndEnd();
        served();
        worst();
        endOfTheLastOne();
        judged();
        asTheyShould();
        noJudgement();
        asManyAsAreLeft();
        noneInNoTime();
        spanToComeIn();
        firstMinuteToCome();
        walkedMiles();
        walkedMinutes();
        ninetyNineAtMost();
        leastMilesToClaim();
        notByNinetyNine();
        whatIfsByTheLaw();
        walksByTheLaw();
        Due.finish();
    }

    private static void order(String when, FarthestFirst x, String row) {
        Due.is(when + ": how many", x.served(-1), row.length());
        for (int i = 0; i < row.length(); i++) {
            Due.is(when + ": place " + i, x.served(i), row.charAt(i) - 'A');
        }
    }

    private static void wellBegins() {
        Due.by("the well begins at the first minute at which somebody has come");
        FarthestFirst x = new FarthestFirst();
        x.come(3, 5, 0, 1, false);
        Due.is("end, come at minute 0", x.waits(3, 1), 2);
        x.come(3, 5, 999, 1, false);
        Due.is("wait, come at minute 999", x.waits(3, 0), 0);
        Due.is("end, come at minute 999", x.waits(3, 1), 1001);
        x.come(4, 6, 999, 1, false);
        order("both at the first minute, the farther one", x, "ED");
        x.come(3, 5, 998, 1, false);
        order("the nearer one a minute before", x, "DE");
    }

    private static void atThatMinuteToo() {
        Due.by("who have come (at that minute, too)");
        FarthestFirst x = new FarthestFirst();
        x.come(0, 0, 0, 1, false);
        x.come(1, 1, 1, 1, false);
        x.come(2, 9, 2, 1, false);
        order("C as the well is free", x, "ACB");
        Due.is("its wait", x.waits(2, 0), 0);
        x.come(2, 9, 3, 1, false);
        order("C a minute later", x, "ABC");
        Due.is("its wait", x.waits(2, 0), 1);
    }

    private static void whoCameFirst() {
        Due.by("of several the one who came first");
        FarthestFirst x = new FarthestFirst();
        x.come(0, 9, 0, 2, false);
        x.come(1, 5, 3, 1, false);
        x.come(2, 5, 2, 1, false);
        order("C a minute before B", x, "ACB");
        x.come(1, 6, 3, 1, false);
        order("B a mile farther", x, "ABC");
    }

    private static void thenByNumbers() {
        Due.by("then by numbers");
        FarthestFirst x = new FarthestFirst();
        for (int p = 7; p >= 0; p--) {
            x.come(p, 5, 5, 1, false);
        }
        order("all alike", x, "ABCDEFGH");
        x.come(0, 5, 6, 1, false);
        order("A a minute later", x, "BCDEFGHA");
    }

    private static void freeTillSomebodyComes() {
        Due.by("if nobody waits, it is free till somebody comes");
        FarthestFirst x = new FarthestFirst();
        x.come(0, 9, 0, 1, false);
        x.come(1, 1, 2, 1, false);
        x.come(2, 1, 5, 1, false);
        x.come(3, 2, 998, 1, false);
        x.come(4, 3, 998, 1, false);
        order("one after the other", x, "ABCED");
        int[] wait = {0, 0, 0, 2, 0};
        int[] end = {2, 4, 7, 1002, 1000};
        for (int p = 0; p < 5; p++) {
            Due.is("wait of " + p, x.waits(p, 0), wait[p]);
            Due.is("end of " + p, x.waits(p, 1), end[p]);
        }
    }

    private static void halvedCut() {
        Due.by("MILES of who has a CART are halved, cut");
        FarthestFirst x = new FarthestFirst();
        x.come(0, 0, 0, 2, false);
        x.come(1, 1, 2, 1, true);
        x.come(2, 0, 1, 1, false);
        order("1 against 0, not halved", x, "ABC");
        x.set(3, 1);
        order("1 is halved to 0", x, "ACB");
        x.come(1, 2, 2, 1, true);
        order("2 is halved to 1", x, "ABC");
        x.come(1, 99, 2, 1, true);
        x.come(2, 49, 1, 1, false);
        order("99 is halved to 49", x, "ACB");
        x.come(2, 48, 1, 1, false);
        order("49 against 48", x, "ABC");
        x.come(1, 0, 2, 1, true);
        x.come(2, 0, 1, 1, true);
        order("0 is halved to 0", x, "ACB");
        x.set(3, 0);
        x.come(1, 1, 2, 1, true);
        order("no longer halved", x, "ABC");
    }

    private static void halvedForCartsAlone() {
        Due.by("MILES of who has a CART");
        FarthestFirst x = new FarthestFirst();
        x.set(3, 1);
        x.come(0, 0, 0, 2, false);
        x.come(1, 6, 2, 1, false);
        x.come(2, 5, 1, 1, false);
        order("without carts", x, "ABC");
        x.come(2, 13, 1, 1, true);
        order("C has one: 6 against 6, C came first", x, "ACB");
        x.set(1, 0);
        x.set(2, 1);
        x.come(1, 0, 1, 1, true);
        x.come(2, 0, 2, 1, false);
        order("minutes are not halved: 3 against 2", x, "ABC");
    }

    private static void greatestClaims() {
        Due.by("FAR times MILES, and STOOD times minutes since the coming");
        FarthestFirst x = new FarthestFirst();
        x.set(0, 20);
        x.set(1, 9);
        x.set(2, 9);
        x.come(0, 0, 0, 9, false);
        x.come(1, 99, 170, 1, false);
        x.come(2, 0, 71, 1, false);
        order("891 and 90 against 981: alike, who came first", x, "ACB");
        x.come(2, 0, 72, 1, false);
        order("against 972", x, "ABC");
        x.come(1, 99, 180, 1, false);
        x.come(2, 0, 81, 1, false);
        order("891 against 891, C came first", x, "ACB");
    }

    private static void nothingCounts() {
        Due.by("FAR 0, STOOD 0");
        FarthestFirst x = new FarthestFirst();
        x.set(1, 0);
        x.come(0, 0, 2, 1, false);
        x.come(1, 99, 3, 1, false);
        x.come(2, 0, 2, 1, true);
        x.come(3, 0, 1, 3, true);
        order("who came first, then by numbers", x, "DACB");
    }

    private static void waitAndEnd() {
        Due.by("WAIT: from coming till drawing begins; END: when drawing is over");
        FarthestFirst x = new FarthestFirst();
        x.set(0, 20);
        for (int p = 0; p < 8; p++) {
            x.come(p, p, 999, 9, false);
        }
        Due.is("none", x.waits(7, 0), 0);
        Due.is("the first end", x.waits(7, 1), 1179);
        Due.is("the longest there can be", x.waits(0, 0), 1260);
        Due.is("the last end there can be", x.waits(0, 1), 2439);
    }

    private static void served() {
        Due.by("9: how many (i = -1), the i-th; NONE");
        for (int many = 0; many <= 8; many++) {
            FarthestFirst x = new FarthestFirst();
            for (int p = 0; p < many; p++) {
                x.come(p, p, 0, 1, false);
            }
            Due.is("how many of " + many, x.served(-1), many);
            for (int i = 0; i < many; i++) {
                Due.is("place " + i + " of " + many, x.served(i), many - 1 - i);
            }
            for (int i : new int[] {many, many + 1, 8, 256, -2, -8, Integer.MIN_VALUE, Integer.MAX_VALUE}) {
                Due.is("place " + i + " of " + many, x.served(i), NONE);
            }
        }
    }

    private static void worst() {
        Due.by("11: WORST, whose (the first); NONE: nobody comes");
        FarthestFirst x = new FarthestFirst();
        Due.is("nobody: whose", x.all(1), NONE);
        Due.is("nobody: worst", x.all(0), 0);
        Due.is("nobody: sum", x.all(2), 0);
        x.come(7, 9, 500, 1, false);
        Due.is("one: whose", x.all(1), 7);
        Due.is("one: worst", x.all(0), 0);
        x.come(6, 9, 502, 1, false);
        Due.is("nobody waits: whose", x.all(1), 6);
        Due.is("nobody waits: sum", x.all(2), 0);
        x.come(5, 9, 502, 1, false);
        x.come(4, 9, 504, 1, false);
        Due.is("G and E wait alike", x.all(0), 2);
        Due.is("the first of them", x.all(1), 4);
        Due.is("both in the sum", x.all(2), 4);
        x.stays(4);
        Due.is("without E", x.all(1), 6);
        x.stays(5);
        x.stays(6);
        x.stays(7);
        Due.is("nobody again: whose", x.all(1), NONE);
        Due.is("A, the first of all", Due.eight().all(1), 0);
        x = Due.eight();
        x.come(0, 99, 0, 1, false);
        Due.is("B, as A is ahead of all", x.all(1), 1);
        x.come(7, 0, 0, 1, false);
        Due.is("H, the last of all", x.all(1), 7);
    }

    private static void endOfTheLastOne() {
        Due.by("11: the END of the last one");
        FarthestFirst x = new FarthestFirst();
        Due.is("nobody", x.all(3), 0);
        x.come(0, 9, 0, 9, false);
        Due.is("one", x.all(3), 18);
        x.come(1, 1, 999, 9, false);
        Due.is("after a gap", x.all(3), 1017);
        x.set(0, 20);
        Due.is("slowly", x.all(3), 1179);
        x.set(0, 1);
        Due.is("fast", x.all(3), 1008);
    }

    private static void judged() {
        Due.by("12: the first place at which it is not the order's, who should be there");
        FarthestFirst x = Due.eight();
        String[] rows = {"A", "HGFEDCAB", "HGFEDBCA", "GHFEDCBA", "HA", "HGFEDCA"};
        int[] place = {0, 6, 5, 0, 1, 6};
        int[] who = {7, 1, 2, 7, 6, 1};
        for (int i = 0; i < rows.length; i++) {
            Due.say(x, rows[i]);
            Due.is("place in " + rows[i], x.judge(0), place[i]);
            Due.is("who in " + rows[i], x.judge(1), who[i]);
            x.wipe();
        }
    }

    private static void asTheyShould() {
        Due.by("12: NONE: all are as they should");
        FarthestFirst x = Due.eight();
        Due.is("nothing told", x.judge(0), NONE);
        Due.is("nothing told, who", x.judge(1), NONE);
        for (char letter = 'H'; letter >= 'A'; letter--) {
            x.say(letter);
            Due.is("told down to " + letter, x.judge(0), NONE);
            Due.is("told down to " + letter + ", who", x.judge(1), NONE);
        }
        FarthestFirst none = new FarthestFirst();
        Due.is("nobody comes", none.judge(0), NONE);
        Due.is("nobody comes, who", none.judge(1), NONE);
    }

    private static void noJudgement() {
        Due.by("12: NO: there is a FAULT");
        FarthestFirst x = Due.eight();
        for (String row : new String[] {"HH", "h", "HGFEDCBAA", "A!", "I", "@"}) {
            Due.say(x, row);
            Due.is("place in " + row, x.judge(0), NO);
            Due.is("who in " + row, x.judge(1), NO);
            x.wipe();
        }
        x.say('H');
        x.stays(7);
        Due.is("H no longer comes", x.judge(0), NO);
        FarthestFirst none = new FarthestFirst();
        none.say('A');
        Due.is("nobody comes", none.judge(0), NO);
    }

    private static void asManyAsAreLeft() {
        Due.by("13: each draws as many as are left when it is its turn");
        FarthestFirst x = new FarthestFirst();
        for (int p = 0; p < 8; p++) {
            x.come(p, p, 0, 9, false);
        }
        int[][] due = {{0, 7, 0}, {1, 7, 1}, {8, 7, 8}, {9, 7, 9}, {9, 6, 0}, {10, 6, 1}, {10, 7, 9}, {17, 6, 8},
            {18, 6, 9}, {63, 0, 0}, {64, 0, 1}, {71, 0, 8}, {72, 0, 9}, {73, 0, 9}, {99, 0, 9}, {99, 7, 9}};
        for (int[] row : due) {
            Due.is("left(" + row[0] + ", " + row[1] + ")", x.left(row[0], row[1]), row[2]);
        }
    }

    private static void noneInNoTime() {
        Due.by("13: none in no time");
        FarthestFirst x = Due.five();
        int[][] due = {{0, 0, 0, 0, 0, 0}, {1, 1, 0, 0, 0, 0}, {3, 3, 0, 0, 0, 0}, {4, 3, 0, 0, 0, 1}};
        for (int[] row : due) {
            for (int p = 0; p < 5; p++) {
                Due.is("left(" + row[0] + ", " + p + ")", x.left(row[0], p), row[p + 1]);
            }
        }
        // A takes its one pail 0 to 2, so that B is next at 2, when the farther C has not yet come.
        FarthestFirst early = new FarthestFirst();
        early.come(0, 0, 0, 9, false);
        early.come(1, 1, 1, 1, false);
        early.come(2, 9, 5, 1, false);
        Due.is("A, the well's one pail", early.left(1, 0), 1);
        Due.is("B, of none", early.left(1, 1), 0);
        Due.is("C, of none", early.left(1, 2), 0);
        Due.is("C, of one, as A takes nine in 18 minutes", early.left(10, 2), 1);
        Due.is("B, of none behind C", early.left(10, 1), 0);
    }

    /** Without B the others of Due.five() draw from 0 to 12, and none of them comes later than 6. */
    private static void spanToComeIn() {
        Due.by("14: a span (from, to)");
        FarthestFirst x = Due.five();
        int[][] due = {{0, 11, 11, 1}, {0, 12, 12, 0}, {12, 12, 12, 0}, {11, 11, 11, 1}, {11, 12, 12, 0},
            {10, 11, 11, 1}, {12, 13, 12, 0}, {13, 999, 13, 0},
            {0, 0, 0, 8}, {999, 999, 999, 0}, {998, 999, 998, 0}, {0, 999, 12, 0}};
        for (int[] row : due) {
            Due.is("minute of " + row[0] + " to " + row[1], x.best(1, row[0], row[1], 0), row[2]);
            Due.is("wait of " + row[0] + " to " + row[1], x.best(1, row[0], row[1], 1), row[3]);
        }
        FarthestFirst late = new FarthestFirst();
        late.set(0, 20);
        late.come(0, 9, 900, 9, false);
        late.come(1, 0, 0, 1, false);
        Due.is("A draws 900 to 1080: the last minute", late.best(1, 900, 999, 0), 999);
        Due.is("its wait", late.best(1, 900, 999, 1), 81);
        Due.is("a minute before A", late.best(1, 899, 999, 0), 899);
        Due.is("its wait", late.best(1, 899, 999, 1), 0);
        Due.is("in truth", late.person(1, 1), 0);
    }

    private static void firstMinuteToCome() {
        Due.by("14: its WAIT is least, the first");
        FarthestFirst x = Due.five();
        Due.is("5 minutes at 3 and at 7", x.best(1, 0, 7, 0), 3);
        Due.is("its wait", x.best(1, 0, 7, 1), 5);
        Due.is("at 7 alone", x.best(1, 4, 7, 0), 7);
        FarthestFirst alone = new FarthestFirst();
        alone.come(6, 1, 50, 9, false);
        Due.is("alone", alone.best(6, 0, 999, 0), 0);
        Due.is("alone, from 1 on", alone.best(6, 1, 999, 0), 1);
        Due.is("alone, wait", alone.best(6, 1, 999, 1), 0);
    }

    private static void walkedMiles() {
        Due.by("15: how many miles more (0 to 9), the first");
        FarthestFirst x = new FarthestFirst();
        x.come(0, 50, 0, 9, false);
        x.come(1, 10, 1, 1, false);
        int[][] due = {{9, 0, 20}, {10, 1, 20}, {17, 8, 20}, {18, 9, 20}, {19, 0, 22}};
        for (int[] row : due) {
            x.come(2, row[0], 0, 1, false);
            Due.is("against " + row[0] + " miles", x.walk(1, 1, 0), row[1]);
            Due.is("its end", x.walk(1, 1, 1), row[2]);
        }
        FarthestFirst alone = new FarthestFirst();
        alone.come(0, 5, 999, 9, false);
        Due.is("alone", alone.walk(0, 1, 0), 0);
        Due.is("alone, its end", alone.walk(0, 1, 1), 1017);
    }

    /** A draws 0 to 180, and so long does C: B, at 2, is ahead of C if it is farther and there by 180. */
    private static void walkedMinutes() {
        Due.by("15: each makes it come so much later (1 to 60 minutes)");
        FarthestFirst x = new FarthestFirst();
        x.set(0, 20);
        x.come(0, 5, 0, 9, false);
        x.come(1, 10, 2, 1, false);
        int[][] due = {{10, 60, 1, 200}, {11, 60, 2, 200}, {12, 60, 0, 380}, {12, 59, 3, 200}, {18, 19, 9, 200},
            {18, 20, 0, 380}, {18, 1, 9, 200}};
        for (int[] row : due) {
            x.come(2, row[0], 1, 9, false);
            Due.is("against " + row[0] + " miles, later by " + row[1], x.walk(1, row[1], 0), row[2]);
            Due.is("its end", x.walk(1, row[1], 1), row[3]);
        }
        FarthestFirst late = new FarthestFirst();
        late.come(0, 5, 990, 9, false);
        late.come(1, 10, 999, 1, false);
        late.come(2, 10, 995, 1, false);
        Due.is("at 1008, as the well is free", late.walk(1, 9, 0), 1);
        Due.is("its end", late.walk(1, 9, 1), 1010);
        Due.is("at 1009, too late", late.walk(1, 10, 0), 0);
        Due.is("its end", late.walk(1, 10, 1), 1012);
    }

    private static void ninetyNineAtMost() {
        Due.by("15: its MILES then are so many more, 99 at most");
        FarthestFirst x = new FarthestFirst();
        x.come(0, 50, 0, 9, false);
        x.come(1, 98, 2, 1, false);
        x.come(2, 98, 1, 1, false);
        Due.is("99 against 98", x.walk(1, 1, 0), 1);
        x.come(2, 99, 1, 1, false);
        Due.is("not 100 against 99", x.walk(1, 1, 0), 0);
        x.come(1, 99, 2, 1, false);
        Due.is("99 stay 99", x.walk(1, 1, 0), 0);
        Due.is("its end", x.walk(1, 1, 1), 22);
        x.set(3, 1);
        x.come(1, 99, 2, 1, true);
        x.come(2, 49, 1, 1, false);
        Due.is("halved, 49 against 49: not 100 halved", x.walk(1, 1, 0), 0);
    }

    private static void leastMilesToClaim() {
        Due.by("16: the least MILES (0 to 99) by which its WAIT is no more");
        FarthestFirst x = Due.five();
        int[][] due = {{8, 0}, {7, 6}, {2, 6}, {9999, 0}};
        for (int[] row : due) {
            Due.is("to wait " + row[0], x.claim(1, row[0]), row[1]);
        }
        Due.is("who does not wait", x.claim(0, 0), 0);
        FarthestFirst far = new FarthestFirst();
        far.come(0, 0, 0, 2, false);
        far.come(1, 98, 1, 1, false);
        far.come(2, 0, 2, 1, false);
        Due.is("99 against 98, to wait 2", far.claim(2, 2), 99);
        Due.is("to wait 3", far.claim(2, 3), 99);
        Due.is("to wait 4", far.claim(2, 4), 0);
        Due.is("in truth", far.person(2, 0), 0);
    }

    private static void notByNinetyNine() {
        Due.by("16: NONE: not by 99");
        FarthestFirst x = new FarthestFirst();
        x.come(0, 0, 0, 2, false);
        x.come(1, 99, 1, 1, false);
        x.come(2, 0, 2, 1, false);
        Due.is("99 against 99 who came first", x.claim(2, 3), NONE);
        Due.is("as the well is not free", x.claim(2, 0), NONE);
        x.come(1, 98, 1, 1, false);
        Due.is("not even by 99 at once", x.claim(2, 1), NONE);
        x.set(3, 1);
        x.come(1, 49, 1, 1, false);
        x.come(2, 0, 2, 1, true);
        Due.is("99 halved against 49", x.claim(2, 2), NONE);
        x.come(1, 48, 1, 1, false);
        Due.is("98 halved against 48", x.claim(2, 2), 98);
        x.set(1, 0);
        Due.is("miles do not count", x.claim(2, 2), NONE);
        Due.is("nor need they", x.claim(2, 4), 0);
    }

    private static void whatIfsByTheLaw() {
        Due.by("13, 14, 16: others as they are, and the law");
        FarthestFirst x = Due.three();
        order("as it is", x, "ABC");
        int[] left = {2, 1, 0};
        for (int p = 0; p < 3; p++) {
            Due.is("of 3 pails, " + p, x.left(3, p), left[p]);
        }
        int[][] best = {{2, 7, 10, 10, 5}, {1, 0, 2, 0, 0}, {1, 1, 5, 2, 8}, {1, 3, 9, 9, 6}};
        for (int[] row : best) {
            String span = row[0] + " from " + row[1] + " to " + row[2];
            Due.is("minute of " + span, x.best(row[0], row[1], row[2], 0), row[3]);
            Due.is("wait of " + span, x.best(row[0], row[1], row[2], 1), row[4]);
        }
        int[][] claim = {{2, 3, 9}, {2, 7, 9}, {2, 8, 0}, {2, 2, NONE}, {1, 8, 3}, {1, 12, 3}, {1, 13, 0}, {1, 7, NONE}};
        for (int[] row : claim) {
            Due.is("of " + row[0] + " to wait " + row[1], x.claim(row[0], row[1]), row[2]);
        }
    }

    private static void walksByTheLaw() {
        Due.by("15: others as they are, and the law");
        FarthestFirst x = Due.three();
        Due.is("a mile for a minute gains C nothing", x.walk(2, 1, 0), 0);
        Due.is("its end", x.walk(2, 1, 1), 20);
        x.set(1, 2);
        order("19 of C against 14 of B", x, "ACB");
        // At 7 from 8 miles B is as C, and first by numbers.
        Due.is("a mile of B is worth two minutes", x.walk(1, 1, 0), 5);
        Due.is("its end", x.walk(1, 1, 1), 15);
        Due.is("not if it takes them", x.walk(1, 2, 0), 0);
        Due.is("its end", x.walk(1, 2, 1), 20);
    }
}
