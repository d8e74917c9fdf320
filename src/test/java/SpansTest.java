/** Each number that a call takes: its least and its most are taken, what is less or more is refused. */
public final class SpansTest {
    private static final int UNKNOWN = -1;
    private static final int OUTSIDE = -2;

    public static void main(String[] args) {
        people();
        peopleOfQuestions();
        comings();
        laws();
        signs();
        whats();
        whatsOfHomesAndDays();
        minutesOfBest();
        otherNumbers();
        images();
        Due.finish();
    }

    private static FarthestFirst fresh() {
        return new FarthestFirst();
    }

    /** All eight, and the order of all of them on the pad. */
    private static FarthestFirst told() {
        FarthestFirst x = Due.eight();
        Due.say(x, "HGFEDCBA");
        return x;
    }

    private static void people() {
        Due.by("PEOPLE 0 to 7");
        Due.span("come of", 0, 7, UNKNOWN, p -> fresh().come(p, 1, 1, 1, false));
        Due.span("stays of", 0, 7, UNKNOWN, p -> Due.eight().stays(p));
        Due.span("person of", 0, 7, UNKNOWN, p -> Due.eight().person(p, 0));
        Due.by("there is no such PERSON, as nobody comes");
        for (int p = 0; p < 8; p++) {
            Due.is("stays of " + p, fresh().stays(p), UNKNOWN);
            Due.is("person of " + p, fresh().person(p, 0), UNKNOWN);
        }
    }

    private static void peopleOfQuestions() {
        Due.by("PEOPLE 0 to 7");
        FarthestFirst x = told();
        Due.span("waits of", 0, 7, UNKNOWN, p -> x.waits(p, 0));
        Due.span("left of", 0, 7, UNKNOWN, p -> x.left(9, p));
        Due.span("best of", 0, 7, UNKNOWN, p -> x.best(p, 0, 9, 0));
        Due.span("walk of", 0, 7, UNKNOWN, p -> x.walk(p, 1, 0));
        Due.span("claim of", 0, 7, UNKNOWN, p -> x.claim(p, 99));
        Due.span("could of", 0, 7, UNKNOWN, p -> x.could(p, 0));
        Due.span("home of", 0, 7, UNKNOWN, p -> x.home(p, 1, 0));
        Due.by("there is no such PERSON, as nobody comes");
        FarthestFirst none = fresh();
        for (int p = 0; p < 8; p++) {
            Due.is("waits of " + p, none.waits(p, 0), UNKNOWN);
            Due.is("left of " + p, none.left(9, p), UNKNOWN);
            Due.is("best of " + p, none.best(p, 0, 9, 0), UNKNOWN);
            Due.is("walk of " + p, none.walk(p, 1, 0), UNKNOWN);
            Due.is("claim of " + p, none.claim(p, 99), UNKNOWN);
            Due.is("could of " + p, none.could(p, 0), UNKNOWN);
            Due.is("home of " + p, none.home(p, 1, 0), UNKNOWN);
        }
    }

    private static void comings() {
        Due.by("MILES (0 to 99)");
        Due.span("come with miles", 0, 99, OUTSIDE, v -> fresh().come(0, v, 1, 1, false));
        Due.by("at a minute (0 to 999)");
        Due.span("come at minute", 0, 999, OUTSIDE, v -> fresh().come(0, 1, v, 1, false));
        Due.by("PAILS (1 to 9)");
        Due.span("come with pails", 1, 9, OUTSIDE, v -> fresh().come(0, 1, 1, v, false));
    }

    private static void laws() {
        Due.by("0 DRAW, 1 FAR, 2 STOOD, 3 HALVED");
        Due.span("set which", 0, 3, OUTSIDE, which -> fresh().set(which, 1));
        Due.by("DRAW (1 to 20)");
        Due.span("set draw", 1, 20, OUTSIDE, v -> fresh().set(0, v));
        Due.by("FAR (0 to 9)");
        Due.span("set far", 0, 9, OUTSIDE, v -> fresh().set(1, v));
        Due.by("STOOD (0 to 9)");
        Due.span("set stood", 0, 9, OUTSIDE, v -> fresh().set(2, v));
        Due.by("HALVED (0; 1)");
        Due.span("set halved", 0, 1, OUTSIDE, v -> fresh().set(3, v));
    }

    private static void signs() {
        Due.by("codes 33 to 126");
        Due.span("say", 33, 126, OUTSIDE, v -> fresh().say(v));
    }

    private static void whats() {
        FarthestFirst x = told();
        Due.by("what of promises 4, 10, 11, 12, 26");
        Due.span("person what", 0, 3, OUTSIDE, v -> x.person(7, v));
        Due.span("waits what", 0, 1, OUTSIDE, v -> x.waits(7, v));
        Due.span("all what", 0, 3, OUTSIDE, v -> x.all(v));
        Due.span("judge what", 0, 1, OUTSIDE, v -> x.judge(v));
        Due.span("told what", 0, 5, OUTSIDE, v -> x.told(v));
        Due.by("what of promises 14, 15, 18");
        Due.span("best what", 0, 1, OUTSIDE, v -> x.best(7, 0, 9, v));
        Due.span("walk what", 0, 1, OUTSIDE, v -> x.walk(7, 1, v));
        Due.span("could what", 0, 1, OUTSIDE, v -> x.could(7, v));
    }

    private static void whatsOfHomesAndDays() {
        FarthestFirst x = told();
        Due.by("what of promises 19, 20, 21, 23");
        Due.span("law what", 0, 2, OUTSIDE, v -> x.law(v));
        Due.span("home what", 0, 1, OUTSIDE, v -> x.home(7, 1, v));
        Due.span("two what", 0, 2, OUTSIDE, v -> x.two(v));
        Due.span("day what", 0, 1, OUTSIDE, v -> x.day(5, v));
    }

    private static void minutesOfBest() {
        FarthestFirst x = Due.eight();
        Due.by("OUTSIDE: minutes");
        Due.span("best from", 0, 999, OUTSIDE, v -> x.best(7, v, 999, 0));
        Due.span("best to", 0, 999, OUTSIDE, v -> x.best(7, 0, v, 0));
        Due.by("a span that ends before it begins");
        Due.span("best from 40 to", 40, 999, OUTSIDE, v -> x.best(7, 40, v, 0));
        Due.span("best to 40 from", 0, 40, OUTSIDE, v -> x.best(7, v, 40, 0));
        Due.is("best from 999 to 0", x.best(7, 999, 0, 0), OUTSIDE);
        Due.is("best from 1000 to 1000", x.best(7, 1000, 1000, 0), OUTSIDE);
        Due.is("best from -1 to -1", x.best(7, -1, -1, 0), OUTSIDE);
    }

    private static void otherNumbers() {
        FarthestFirst x = Due.eight();
        Due.by("OUTSIDE: p 0 to 99");
        Due.span("left", 0, 99, OUTSIDE, v -> x.left(v, 7));
        Due.by("so much later (1 to 60 minutes)");
        Due.span("walk later by", 1, 60, OUTSIDE, v -> x.walk(7, v, 0));
        Due.by("k minutes at most (0 to 9999)");
        Due.span("claim to wait", 0, 9999, OUTSIDE, v -> x.claim(7, v));
        Due.by("a RENT of r (0 to 99)");
        Due.span("home for rent", 0, 99, OUTSIDE, v -> x.home(7, v, 0));
        Due.by("OUTSIDE: k 0 to 9999");
        Due.span("stay", 0, 9999, OUTSIDE, v -> x.stay(v));
        Due.by("a seed (0 to 9999)");
        Due.span("day", 0, 9999, OUTSIDE, v -> x.day(v, 0));
    }

    private static void images() {
        FarthestFirst x = Due.eight();
        Due.by("an IMAGE (0, 1)");
        Due.span("image", 0, 1, OUTSIDE, v -> x.image(v));
        Due.span("restore", 0, 1, OUTSIDE, v -> x.restore(v));
    }
}
