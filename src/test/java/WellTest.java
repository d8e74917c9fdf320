/** Promises 9 to 16: served, waits, all, judge, left, best, walk, claim. */
public final class WellTest {
    private static final int MIN = Integer.MIN_VALUE;
    private static final int MAX = Integer.MAX_VALUE;

    public static void main(String[] args) {
        served();
        laws();
        waits();
        all();
        judge();
        left();
        best();
        walk();
        claim();
        refused();
        Due.finish();
    }

    private static void order(String when, FarthestFirst x, String row) {
        Due.is(when + ": how many", x.served(-1), row.length());
        for (int i = 0; i < row.length(); i++) {
            Due.is(when + ": served " + i, x.served(i), row.charAt(i) - 'A');
        }
    }

    private static void served() {
        FarthestFirst x = Due.five();
        order("who comes as the well is free, who came first, by numbers", x, "AECDB");
        for (int i : new int[] {5, 8, 40, MAX, -2, MIN}) {
            Due.is("served " + i, x.served(i), -6);
        }
        FarthestFirst none = new FarthestFirst();
        Due.is("nobody: how many", none.served(-1), 0);
        Due.is("nobody: the first", none.served(0), -6);
        for (int p = 0; p < 8; p++) {
            none.come(p, p, 999, 9, true);
        }
        order("eight", none, "HGFEDCBA");
        Due.is("a ninth", none.served(8), -6);
    }

    private static void laws() {
        FarthestFirst x = new FarthestFirst();
        x.come(0, 0, 0, 5, false);
        x.come(1, 9, 9, 1, false);
        x.come(2, 0, 4, 1, false);
        order("by miles", x, "ABC");
        x.set(2, 1);
        order("9 and 1 against 6", x, "ABC");
        x.set(2, 2);
        order("9 and 2 against 12", x, "ACB");
        x.set(1, 2);
        order("18 and 2 against 12", x, "ABC");
        x.set(1, 0);
        order("2 against 12", x, "ACB");
        x.set(2, 0);
        order("nothing counts: who came first", x, "ACB");
        x.set(2, 9);
        x.set(1, 5);
        order("45 and 9 against 54: alike, who came first", x, "ACB");

        FarthestFirst carts = new FarthestFirst();
        carts.come(0, 0, 0, 3, true);
        carts.come(1, 11, 2, 1, true);
        carts.come(2, 5, 1, 1, false);
        order("carts not halved", carts, "ABC");
        carts.set(3, 1);
        order("11 halved is 5: alike, who came first", carts, "ACB");
        carts.come(1, 12, 2, 1, true);
        order("12 halved is 6", carts, "ABC");
        carts.come(1, 6, 2, 1, false);
        order("no cart, not halved", carts, "ABC");
        carts.set(1, 9);
        carts.come(1, 11, 2, 1, true);
        order("cut before it is multiplied", carts, "ACB");
    }

    private static void waits() {
        FarthestFirst x = Due.five();
        int[] wait = {0, 8, 5, 7, 0};
        int[] end = {6, 14, 10, 12, 8};
        for (int p = 0; p < 5; p++) {
            Due.is("wait of " + p, x.waits(p, 0), wait[p]);
            Due.is("end of " + p, x.waits(p, 1), end[p]);
        }
        x.set(0, 20);
        Due.is("slow well: wait of B", x.waits(1, 0), 116);
        Due.is("slow well: end of B", x.waits(1, 1), 140);
        FarthestFirst gap = new FarthestFirst();
        gap.come(6, 99, 10, 1, false);
        gap.come(2, 0, 100, 2, false);
        Due.is("before the gap: end", gap.waits(6, 1), 12);
        Due.is("after the gap: wait", gap.waits(2, 0), 0);
        Due.is("after the gap: end", gap.waits(2, 1), 104);
    }

    private static void all() {
        FarthestFirst x = Due.five();
        int[] due = {8, 1, 20, 14};
        for (int what = 0; what < 4; what++) {
            Due.is("all " + what, x.all(what), due[what]);
        }
        FarthestFirst none = new FarthestFirst();
        Due.is("nobody: worst", none.all(0), 0);
        Due.is("nobody: whose", none.all(1), -6);
        Due.is("nobody: sum", none.all(2), 0);
        Due.is("nobody: end", none.all(3), 0);
        FarthestFirst alike = new FarthestFirst();
        alike.come(6, 1, 0, 1, false);
        Due.is("nobody waits: whose", alike.all(1), 6);
        alike.come(5, 1, 1, 1, false);
        alike.come(3, 1, 3, 1, false);
        Due.is("5 and 3 wait 1", alike.all(0), 1);
        Due.is("the first by numbers", alike.all(1), 3);
        Due.is("their sum", alike.all(2), 2);
        Due.is("their end", alike.all(3), 6);
    }

    private static void judge() {
        FarthestFirst x = Due.five();
        String[] rows = {"", "A", "AECDB", "AECD", "B", "AEDCB", "AEDBC", "ACEDB", "AECBD"};
        int[] place = {-6, -6, -6, -6, 0, 2, 2, 1, 3};
        int[] who = {-6, -6, -6, -6, 0, 2, 2, 4, 3};
        for (int i = 0; i < rows.length; i++) {
            Due.say(x, rows[i]);
            Due.is("place in " + rows[i], x.judge(0), place[i]);
            Due.is("who in " + rows[i], x.judge(1), who[i]);
            x.wipe();
        }
        Due.say(x, "BA?");
        Due.is("a fault behind the place", x.judge(0), -5);
        Due.is("a fault, what 2", x.judge(2), -2);
        Due.is("a fault, what -1", x.judge(-1), -2);
        FarthestFirst none = new FarthestFirst();
        Due.is("nobody, empty row", none.judge(0), -6);
        Due.is("nobody, empty row, who", none.judge(1), -6);
    }

    private static void left() {
        FarthestFirst x = Due.five();
        int[][] due = {{0, 0, 0, 0, 0, 0}, {2, 2, 0, 0, 0, 0}, {4, 3, 0, 0, 0, 1}, {6, 3, 0, 1, 1, 1}, {7, 3, 1, 1, 1, 1},
            {99, 3, 1, 1, 1, 1}};
        for (int[] row : due) {
            for (int p = 0; p < 5; p++) {
                Due.is("left(" + row[0] + ", " + p + ")", x.left(row[0], p), row[p + 1]);
            }
        }
        Due.is("p -1", x.left(-1, 0), -2);
        Due.is("p 100", x.left(100, 0), -2);
        Due.is("p -1, one who does not come", x.left(-1, 5), -1);
    }

    private static void best() {
        FarthestFirst x = Due.five();
        int[][] due = {{0, 999, 12, 0}, {0, 11, 11, 1}, {0, 8, 8, 4}, {0, 7, 3, 5}, {4, 6, 6, 6}, {4, 4, 4, 8},
            {0, 0, 0, 8}, {999, 999, 999, 0}, {12, 13, 12, 0}};
        for (int[] row : due) {
            Due.is("best minute of " + row[0] + " to " + row[1], x.best(1, row[0], row[1], 0), row[2]);
            Due.is("its wait", x.best(1, row[0], row[1], 1), row[3]);
        }
        Due.is("nothing changes", x.person(1, 1), 4);
        int[][] bad = {{-1, 5}, {0, 1000}, {5, 4}, {1000, 1000}, {MIN, MAX}, {MAX, MIN}};
        for (int[] span : bad) {
            Due.is("span " + span[0] + " to " + span[1], x.best(1, span[0], span[1], 0), -2);
        }
        Due.is("best what 2", x.best(1, 0, 1, 2), -2);
        Due.is("best what -1", x.best(1, 0, 1, -1), -2);
    }

    private static void walk() {
        FarthestFirst x = Due.five();
        int[][] due = {{1, 1, 8}, {2, 1, 8}, {3, 1, 10}, {7, 0, 14}, {8, 0, 14}, {60, 0, 14}};
        for (int[] row : due) {
            Due.is("walk, later by " + row[0], x.walk(1, row[0], 0), row[1]);
            Due.is("its end", x.walk(1, row[0], 1), row[2]);
        }
        Due.is("nothing changes", x.person(1, 0), 5);
        for (int bad : new int[] {0, 61, -1, MIN, MAX}) {
            Due.is("later by " + bad, x.walk(1, bad, 0), -2);
        }
        Due.is("walk what 2", x.walk(1, 1, 2), -2);
        Due.is("walk what -1", x.walk(1, 1, -1), -2);

        FarthestFirst far = new FarthestFirst();
        far.come(0, 50, 0, 5, false);
        far.come(1, 98, 1, 1, false);
        far.come(2, 99, 2, 1, false);
        Due.is("99 miles like C, as early, by numbers", far.walk(1, 1, 0), 1);
        Due.is("its end", far.walk(1, 1, 1), 12);
        Due.is("99 miles at most, and later than C", far.walk(1, 2, 0), 0);
        Due.is("its end", far.walk(1, 2, 1), 14);
        FarthestFirst nine = new FarthestFirst();
        nine.come(0, 50, 0, 9, false);
        nine.come(1, 10, 1, 1, false);
        nine.come(2, 18, 2, 1, false);
        Due.is("nine miles more", nine.walk(1, 1, 0), 9);
        Due.is("its end", nine.walk(1, 1, 1), 20);
        nine.come(2, 19, 2, 1, false);
        Due.is("not ten", nine.walk(1, 1, 0), 0);
        Due.is("its end", nine.walk(1, 1, 1), 22);
    }

    private static void claim() {
        FarthestFirst x = Due.five();
        int[][] due = {{9999, 0}, {8, 0}, {7, 6}, {2, 6}, {1, -6}, {0, -6}};
        for (int[] row : due) {
            Due.is("claim to wait " + row[0], x.claim(1, row[0]), row[1]);
        }
        Due.is("who is alone", x.claim(0, 0), 0);
        Due.is("nothing changes", x.person(1, 0), 5);
        for (int bad : new int[] {-1, 10000, MIN, MAX}) {
            Due.is("k " + bad, x.claim(1, bad), -2);
        }
        x.come(1, 5, 4, 1, true);
        x.set(3, 1);
        Due.is("halved: 12 counts as 6", x.claim(1, 7), 12);
        FarthestFirst far = new FarthestFirst();
        far.come(0, 0, 0, 2, false);
        far.come(1, 98, 1, 1, false);
        far.come(2, 0, 2, 1, false);
        Due.is("99 miles, against 98 and earlier", far.claim(2, 2), 99);
        far.come(1, 99, 1, 1, false);
        Due.is("not by 99, against 99 and earlier", far.claim(2, 2), -6);
    }

    private static void refused() {
        FarthestFirst x = Due.five();
        for (int p : new int[] {-1, 5, 8, 32, 33, MIN, MAX}) {
            Due.is("waits of " + p, x.waits(p, 0), -1);
            Due.is("waits of " + p + ", what 2", x.waits(p, 2), -1);
            Due.is("left of " + p, x.left(1, p), -1);
            Due.is("best of " + p, x.best(p, 0, 1, 0), -1);
            Due.is("best of " + p + ", wrong span", x.best(p, 2, 1, 5), -1);
            Due.is("walk of " + p, x.walk(p, 1, 0), -1);
            Due.is("walk of " + p + ", later 0", x.walk(p, 0, 9), -1);
            Due.is("claim of " + p, x.claim(p, 1), -1);
            Due.is("claim of " + p + ", k -1", x.claim(p, -1), -1);
        }
        for (int what : new int[] {-1, 2, MIN, MAX}) {
            Due.is("waits what " + what, x.waits(0, what), -2);
        }
        for (int what : new int[] {-1, 4, MIN, MAX}) {
            Due.is("all what " + what, x.all(what), -2);
        }
    }
}
