/** Promises 17 to 22: lied, could, law, home, two, stay. */
public final class LiarsTest {
    private static final int MIN = Integer.MIN_VALUE;
    private static final int MAX = Integer.MAX_VALUE;

    public static void main(String[] args) {
        lied();
        could();
        law();
        home();
        two();
        stay();
        Due.finish();
    }

    private static void lied() {
        FarthestFirst x = Due.five();
        String[] rows = {"AECDB", "AEBCD", "ABECD", "EACDB", "", "AECD", "AECDA", "AECDF", "AECDB!", "B"};
        int[] due = {31, 0, 2, 0, -5, -5, -5, -5, -5, -5};
        for (int i = 0; i < rows.length; i++) {
            Due.say(x, rows[i]);
            Due.is("lied by " + rows[i], x.lied(), due[i]);
            x.wipe();
        }
        Due.say(x, "ABECD");
        x.come(1, 6, 4, 1, false);
        Due.is("as told, too", x.lied() & 2, 2);
        Due.is("miles stay as told", x.person(1, 0), 6);
        FarthestFirst none = new FarthestFirst();
        Due.is("nobody, empty row", none.lied(), 0);
        none.say('A');
        Due.is("nobody, a row", none.lied(), -5);
    }

    private static void could() {
        FarthestFirst x = Due.five();
        Due.say(x, "AECDB");
        int[][] due = {{0, 99}, {0, 5}, {5, 5}, {5, 5}, {6, 99}};
        for (int p = 0; p < 5; p++) {
            Due.is("least of " + p, x.could(p, 0), due[p][0]);
            Due.is("greatest of " + p, x.could(p, 1), due[p][1]);
        }
        x.wipe();
        Due.say(x, "ABECD");
        Due.is("least of a liar", x.could(1, 0), 6);
        Due.is("greatest of a liar", x.could(1, 1), 99);
        Due.is("least of who can not", x.could(0, 0), -6);
        Due.is("greatest of who can not", x.could(0, 1), -6);
        Due.is("nothing changes", x.served(1), 4);
        for (int what : new int[] {-1, 2, MIN, MAX}) {
            Due.is("could what " + what, x.could(0, what), -2);
        }
        x.wipe();
        Due.is("not all told", x.could(0, 0), -5);
        Due.is("not all told, what 2", x.could(0, 2), -2);
        for (int p : new int[] {-1, 5, 8, 32, MIN, MAX}) {
            Due.is("not all told, of " + p, x.could(p, 0), -1);
            Due.is("what 2, of " + p, x.could(p, 2), -1);
        }
        Due.say(x, "AECDBB");
        Due.is("a fault", x.could(0, 1), -5);
        FarthestFirst ends = new FarthestFirst();
        ends.come(0, 50, 0, 2, false);
        ends.come(1, 98, 1, 1, false);
        ends.come(2, 0, 2, 1, false);
        Due.say(ends, "ACB");
        Due.is("99 at least, against 98 and earlier", ends.could(2, 0), 99);
        Due.is("99 at most", ends.could(2, 1), 99);
        ends.wipe();
        Due.say(ends, "ABC");
        ends.come(1, 0, 1, 1, false);
        Due.is("0 at least, behind 0 and earlier", ends.could(2, 0), 0);
        Due.is("0 at most", ends.could(2, 1), 0);
    }

    private static void law() {
        FarthestFirst x = new FarthestFirst();
        bestLaw("nobody", x, 0, 1, 0);
        x.come(0, 0, 0, 5, false);
        x.come(1, 9, 9, 9, false);
        x.come(2, 0, 4, 1, false);
        bestLaw("C should be ahead of B", x, 0, 1, 6);
        x.come(1, 9, 9, 1, true);
        x.come(2, 5, 4, 9, false);
        bestLaw("B should be ahead of C", x, 1, 0, 8);
        x.set(3, 1);
        bestLaw("B has a cart, and it is halved", x, 0, 1, 19);
        x.set(3, 0);
        x.set(1, 7);
        x.set(2, 8);
        bestLaw("the law as it is does not matter", x, 1, 0, 8);
        Due.is("far stays", x.told(2), 7);
        Due.is("stood stays", x.told(3), 8);
        for (int what : new int[] {-1, 3, MIN, MAX}) {
            Due.is("law what " + what, x.law(what), -2);
        }
    }

    private static void bestLaw(String when, FarthestFirst x, int far, int stood, int worst) {
        Due.is(when + ": far", x.law(0), far);
        Due.is(when + ": stood", x.law(1), stood);
        Due.is(when + ": worst", x.law(2), worst);
    }

    private static void home() {
        FarthestFirst x = Due.five();
        int[][] due = {{0, 6, 2}, {1, 99, 2}, {99, 99, 2}};
        for (int[] row : due) {
            Due.is("home for rent " + row[0], x.home(1, row[0], 0), row[1]);
            Due.is("wait and rent", x.home(1, row[0], 1), row[2]);
        }
        Due.is("alone, no rent", x.home(0, 0, 0), 0);
        Due.is("nothing changes", x.person(1, 0), 5);
        for (int bad : new int[] {-1, 100, MIN, MAX}) {
            Due.is("rent " + bad, x.home(1, bad, 0), -2);
        }
        for (int what : new int[] {-1, 2, MIN, MAX}) {
            Due.is("home what " + what, x.home(1, 1, what), -2);
        }
        for (int p : new int[] {-1, 5, 8, 32, MIN, MAX}) {
            Due.is("home of " + p, x.home(p, 1, 0), -1);
            Due.is("home of " + p + ", rent 100", x.home(p, 100, 2), -1);
        }
    }

    private static void two() {
        FarthestFirst x = new FarthestFirst();
        wells("nobody", x, 0, 0, 0);
        x.come(6, 3, 0, 1, false);
        wells("one", x, 0, 0, 0);
        x.come(3, 3, 0, 1, false);
        wells("two at once", x, 8, 0, 0);
        x.come(0, 3, 0, 1, false);
        wells("three at once", x, 1, 2, 2);
        x.come(1, 3, 0, 1, false);
        wells("four at once", x, 3, 2, 4);
        x.come(1, 3, 2, 1, false);
        wells("the fourth comes later", x, 1 + 2, 2, 2);
        for (int what : new int[] {-1, 3, MIN, MAX}) {
            Due.is("two what " + what, x.two(what), -2);
        }
    }

    private static void wells(String when, FarthestFirst x, int set, int worst, int sum) {
        Due.is(when + ": set", x.two(0), set);
        Due.is(when + ": worst", x.two(1), worst);
        Due.is(when + ": sum", x.two(2), sum);
    }

    private static void stay() {
        FarthestFirst x = Due.five();
        int[][] due = {{9999, 0}, {8, 0}, {7, 1}, {4, 3}, {0, 7}};
        for (int[] row : due) {
            Due.is("stay so that none waits over " + row[0], x.stay(row[0]), row[1]);
        }
        Due.is("nothing changes", x.told(5), 31);
        for (int bad : new int[] {-1, 10000, MIN, MAX}) {
            Due.is("stay " + bad, x.stay(bad), -2);
        }
        Due.is("nobody", new FarthestFirst().stay(0), 0);
        FarthestFirst late = new FarthestFirst();
        late.come(7, 9, 0, 9, false);
        late.come(6, 1, 1, 1, false);
        late.come(5, 1, 3, 1, false);
        Due.is("one instead of two, though its bit is greater", late.stay(0), 128);
    }
}
