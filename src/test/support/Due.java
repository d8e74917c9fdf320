/** Counts and prints the answers that are not as due; a test ends with finish(). */
final class Due {
    private static int asked = 0;
    private static int wrong = 0;
    private static String sentence = "";

    /** A call with one number left open. */
    interface Call {
        int of(int v);
    }

    private Due() {
    }

    /** The document's sentence that the answers from here on are asked for. */
    static void by(String words) {
        sentence = words + ": ";
    }

    static void is(String call, int got, int want) {
        asked++;
        if (got != want) {
            wrong++;
            System.out.println(sentence + call + " answered " + got + ", due is " + want);
        }
    }

    /** A number is taken from least to most, both too, and no other is, however it might wrap around. */
    static void span(String number, int least, int most, int refusal, Call call) {
        for (int v : new int[] {least, (least + most) / 2, most}) {
            int got = call.of(v);
            holds(number + " " + v + " is taken, answered " + got, got >= 0 || got == FarthestFirst.NONE);
        }
        int[] others = {least - 1, most + 1, least - 32, least + 32, least - 256, least + 256, most + 65536,
            most - 65536, ~least, -most, Integer.MIN_VALUE, Integer.MIN_VALUE + least, Integer.MIN_VALUE + most,
            Integer.MAX_VALUE};
        for (int v : others) {
            if (v < least || v > most) {
                is(number + " " + v, call.of(v), refusal);
            }
        }
    }

    static void holds(String what, boolean is) {
        is(what, is ? 1 : 0, 1);
    }

    /** A draws 0 to 6, E 6 to 8, C 8 to 10, D 10 to 12, B 12 to 14. */
    static FarthestFirst five() {
        FarthestFirst x = new FarthestFirst();
        x.come(0, 10, 0, 3, false);
        x.come(1, 5, 4, 1, false);
        x.come(2, 5, 3, 1, false);
        x.come(3, 5, 3, 1, false);
        x.come(4, 6, 6, 1, false);
        return x;
    }

    /** By a law of both: A draws 0 to 10, B 10 to 15 (at 10: 11 against 11, and B came first), C 15 to 20. */
    static FarthestFirst three() {
        FarthestFirst x = new FarthestFirst();
        x.set(0, 5);
        x.set(2, 1);
        x.come(0, 0, 0, 2, false);
        x.come(1, 3, 2, 1, false);
        x.come(2, 8, 7, 1, false);
        return x;
    }

    /** All eight, at once: who is a number farther draws sooner, so the order is HGFEDCBA; each draws 2 minutes. */
    static FarthestFirst eight() {
        FarthestFirst x = new FarthestFirst();
        for (int p = 0; p < 8; p++) {
            x.come(p, p, 0, 1, false);
        }
        return x;
    }

    /** What can be seen of all that an object holds, but for its images. */
    static String seen(FarthestFirst x) {
        StringBuilder seen = new StringBuilder();
        for (int what = 0; what < 6; what++) {
            seen.append(x.told(what)).append(' ');
        }
        for (int p = 0; p < 8; p++) {
            for (int what = 0; what < 4; what++) {
                seen.append(x.person(p, what)).append(' ');
            }
        }
        seen.append(x.fault()).append(' ').append(x.judge(0)).append(' ').append(x.lied());
        return seen.toString();
    }

    /** Says a row, a sign at a time. */
    static void say(FarthestFirst x, String row) {
        for (int i = 0; i < row.length(); i++) {
            is("say " + row.charAt(i), x.say(row.charAt(i)), x.told(0));
        }
    }

    static void finish() {
        System.out.println(asked + " answers asked, " + wrong + " not as due");
        if (wrong != 0 || asked == 0) {
            System.exit(1);
        }
    }
}
