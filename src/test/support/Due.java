/** Counts and prints the answers that are not as due; a test ends with finish(). */
final class Due {
    private static int asked = 0;
    private static int wrong = 0;

    private Due() {
    }

    static void is(String call, int got, int want) {
        asked++;
        if (got != want) {
            wrong++;
            System.out.println(call + " answered " + got + ", due is " + want);
        }
    }

    static void holds(String what, boolean is) {
        is(what, is ? 1 : 0, 1);
    }

    /** A draws 0 to 6, E 6 to 8, C 8 to 10, D 10 to 12, B 12 to 14. */
    static FarthestFirst five() {
        FarthestFirst x = new FarthestFirst();
        x.come(0, 10, 0, 3, false);
        x.come(1, 5, 4, 1, false);
        x.come(2, 5, 3, 1, false);
        x.come(3, 5, 3, 1, false);
        x.come(4, 6, 6, 1, false);
        return x;
    }

    /** Says a row, a sign at a time. */
    static void say(FarthestFirst x, String row) {
        for (int i = 0; i < row.length(); i++) {
            is("say " + row.charAt(i), x.say(row.charAt(i)), x.told(0));
        }
    }

    static void finish() {
        System.out.println(asked + " answers asked, " + wrong + " not as due");
        if (wrong != 0 || asked == 0) {
            System.exit(1);
        }
    }
}
