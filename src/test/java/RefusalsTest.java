import java.util.function.Supplier;
import java.util.function.ToIntFunction;

/** Which refusal comes first, and that refused calls, and calls that only ask, change nothing. */
public final class RefusalsTest {
    private static final int UNKNOWN = -1;
    private static final int OUTSIDE = -2;
    private static final int STATE = -3;
    private static final int FULL = -4;
    private static final int NO = -5;

    public static void main(String[] args) {
        unknownBeforeOutside();
        unknownAndOutsideBeforeNo();
        outsideBeforeState();
        outsideBeforeFull();
        peopleRefused();
        wellRefused();
        liarsRefused();
        daysRefused();
        asking();
        Due.finish();
    }

    /** A, C, E, F come by a law of its own; the pad tells their order; image 0 is of another village, 1 is not kept. */
    private static FarthestFirst village() {
        FarthestFirst x = new FarthestFirst();
        x.come(3, 17, 18, 2, true);
        x.set(0, 7);
        x.image(0);
        x.stays(3);
        x.come(0, 10, 0, 3, true);
        x.come(2, 5, 3, 1, false);
        x.come(4, 6, 6, 1, true);
        x.come(5, 30, 900, 9, false);
        x.set(0, 3);
        x.set(1, 4);
        x.set(2, 1);
        x.set(3, 1);
        Due.say(x, "ACEF");
        return x;
    }

    /** As village(), but 40 signs stand on the pad. */
    private static FarthestFirst fullPad() {
        FarthestFirst x = village();
        for (int i = 0; i < 36; i++) {
            x.say('~');
        }
        return x;
    }

    /** As village(), but the pad tells C before A and then what can not stand there. */
    private static FarthestFirst fault() {
        FarthestFirst x = village();
        x.wipe();
        Due.say(x, "CAB");
        return x;
    }

    private static void unknownBeforeOutside() {
        Due.by("the first of these that fits: UNKNOWN, OUTSIDE");
        FarthestFirst x = village();
        for (int p : new int[] {-1, 8}) {
            Due.is("come of " + p + ", miles 100", x.come(p, 100, 0, 1, false), UNKNOWN);
            Due.is("come of " + p + ", minute 1000", x.come(p, 0, 1000, 1, false), UNKNOWN);
            Due.is("come of " + p + ", pails 0", x.come(p, 0, 0, 0, false), UNKNOWN);
        }
        for (int p : new int[] {-1, 8, 1}) {
            Due.is("person of " + p + ", what 4", x.person(p, 4), UNKNOWN);
            Due.is("waits of " + p + ", what 2", x.waits(p, 2), UNKNOWN);
            Due.is("left of " + p + ", p 100", x.left(100, p), UNKNOWN);
            Due.is("best of " + p + ", a span that ends before it begins", x.best(p, 5, 4, 0), UNKNOWN);
            Due.is("best of " + p + ", from -1", x.best(p, -1, 4, 0), UNKNOWN);
            Due.is("best of " + p + ", to 1000", x.best(p, 5, 1000, 0), UNKNOWN);
            Due.is("best of " + p + ", what 2", x.best(p, 4, 5, 2), UNKNOWN);
            Due.is("walk of " + p + ", later by 0", x.walk(p, 0, 0), UNKNOWN);
            Due.is("walk of " + p + ", what 2", x.walk(p, 1, 2), UNKNOWN);
            Due.is("claim of " + p + ", k 10000", x.claim(p, 10000), UNKNOWN);
            Due.is("could of " + p + ", what 2", x.could(p, 2), UNKNOWN);
            Due.is("home of " + p + ", rent 100", x.home(p, 100, 0), UNKNOWN);
            Due.is("home of " + p + ", what 2", x.home(p, 1, 2), UNKNOWN);
        }
    }

    private static void unknownAndOutsideBeforeNo() {
        FarthestFirst x = fault();
        Due.by("the first of these that fits: UNKNOWN, NO");
        Due.is("could of 8, a fault", x.could(8, 0), UNKNOWN);
        Due.is("could of 1, who does not come, a fault", x.could(1, 0), UNKNOWN);
        Due.is("could of 8, what 2, a fault", x.could(8, 2), UNKNOWN);
        Due.by("the first of these that fits: OUTSIDE, NO");
        Due.is("could of 0, what 2, a fault", x.could(0, 2), OUTSIDE);
        Due.is("could of 0, what -1, a fault", x.could(0, -1), OUTSIDE);
        Due.is("judge what 2, a fault", x.judge(2), OUTSIDE);
        Due.is("judge what -1, a fault", x.judge(-1), OUTSIDE);
        Due.is("could of 0, a fault", x.could(0, 0), NO);
        Due.is("judge, a fault", x.judge(0), NO);
        x.wipe();
        Due.is("could of 1, who does not come, not all told", x.could(1, 0), UNKNOWN);
        Due.is("could of 0, what 2, not all told", x.could(0, 2), OUTSIDE);
        Due.is("could of 0, not all told", x.could(0, 0), NO);
    }

    private static void outsideBeforeState() {
        Due.by("the first of these that fits: OUTSIDE, STATE");
        FarthestFirst x = new FarthestFirst();
        Due.is("restore 2, none kept", x.restore(2), OUTSIDE);
        Due.is("restore -1, none kept", x.restore(-1), OUTSIDE);
        Due.is("restore 0, not kept", x.restore(0), STATE);
        Due.is("restore 1, not kept", x.restore(1), STATE);
    }

    private static void outsideBeforeFull() {
        Due.by("the first of these that fits: OUTSIDE, FULL");
        FarthestFirst x = fullPad();
        Due.is("say 32, full", x.say(32), OUTSIDE);
        Due.is("say 127, full", x.say(127), OUTSIDE);
        Due.is("say 33, full", x.say(33), FULL);
        Due.is("say 126, full", x.say(126), FULL);
    }

    /** Answers as due, and all is as it was, the images too. */
    private static void still(String call, Supplier<FarthestFirst> made, ToIntFunction<FarthestFirst> asked, int due) {
        FarthestFirst x = made.get();
        String before = Due.seen(x);
        Due.is(call, asked.applyAsInt(x), due);
        Due.holds(call + " changes nothing", Due.seen(x).equals(before));
        Due.is(call + ": image 1 is not kept", x.restore(1), STATE);
        Due.is(call + ": image 0 is kept", x.restore(0), 1);
        FarthestFirst other = made.get();
        other.restore(0);
        Due.holds(call + " changes no image", Due.seen(x).equals(Due.seen(other)));
    }

    private static void refused(String call, ToIntFunction<FarthestFirst> asked, int due) {
        still(call, RefusalsTest::village, asked, due);
    }

    private static void peopleRefused() {
        Due.by("refused calls change nothing");
        refused("come of 8", x -> x.come(8, 1, 1, 1, true), UNKNOWN);
        refused("come of -1", x -> x.come(-1, 1, 1, 1, true), UNKNOWN);
        refused("come of 32", x -> x.come(32, 1, 1, 1, true), UNKNOWN);
        refused("come, miles 100", x -> x.come(0, 100, 1, 1, false), OUTSIDE);
        refused("come, minute 1000", x -> x.come(0, 1, 1000, 1, false), OUTSIDE);
        refused("come, pails 10", x -> x.come(0, 1, 1, 10, false), OUTSIDE);
        refused("come, who did not, miles -1", x -> x.come(1, -1, 1, 1, false), OUTSIDE);
        refused("come, who did not, minute -1", x -> x.come(1, 1, -1, 1, false), OUTSIDE);
        refused("come, who did not, pails 0", x -> x.come(1, 1, 1, 0, false), OUTSIDE);
        refused("stays of 8", x -> x.stays(8), UNKNOWN);
        refused("stays of 32", x -> x.stays(32), UNKNOWN);
        refused("stays, who did not come", x -> x.stays(1), UNKNOWN);
        refused("person of 1", x -> x.person(1, 0), UNKNOWN);
        refused("person what 4", x -> x.person(0, 4), OUTSIDE);
        refused("set which 4", x -> x.set(4, 1), OUTSIDE);
        refused("set which -1", x -> x.set(-1, 1), OUTSIDE);
        int[] most = {20, 9, 9, 1};
        for (int i = 0; i < 4; i++) {
            int which = i;
            refused("set " + which + ", too large", x -> x.set(which, most[which] + 1), OUTSIDE);
            refused("set " + which + ", too small", x -> x.set(which, which == 0 ? 0 : -1), OUTSIDE);
        }
        refused("say 32", x -> x.say(32), OUTSIDE);
        refused("say 127", x -> x.say(127), OUTSIDE);
        still("say on a full pad", RefusalsTest::fullPad, x -> x.say('A'), FULL);
        still("say 127 on a full pad", RefusalsTest::fullPad, x -> x.say(127), OUTSIDE);
    }

    private static void wellRefused() {
        Due.by("refused calls change nothing");
        refused("waits of 1", x -> x.waits(1, 0), UNKNOWN);
        refused("waits what 2", x -> x.waits(0, 2), OUTSIDE);
        refused("all what 4", x -> x.all(4), OUTSIDE);
        refused("judge what 2", x -> x.judge(2), OUTSIDE);
        still("judge, a fault", RefusalsTest::fault, x -> x.judge(0), NO);
        refused("left of 1", x -> x.left(1, 1), UNKNOWN);
        refused("left, p 100", x -> x.left(100, 0), OUTSIDE);
        refused("best of 1", x -> x.best(1, 0, 9, 0), UNKNOWN);
        refused("best, a span that ends before it begins", x -> x.best(0, 5, 4, 0), OUTSIDE);
        refused("walk of 1", x -> x.walk(1, 1, 0), UNKNOWN);
        refused("walk, later by 61", x -> x.walk(0, 61, 0), OUTSIDE);
        refused("claim of 1", x -> x.claim(1, 1), UNKNOWN);
        refused("claim, k 10000", x -> x.claim(0, 10000), OUTSIDE);
    }

    private static void liarsRefused() {
        Due.by("refused calls change nothing");
        still("lied, a fault", RefusalsTest::fault, x -> x.lied(), NO);
        still("could, a fault", RefusalsTest::fault, x -> x.could(0, 0), NO);
        refused("could of 1", x -> x.could(1, 0), UNKNOWN);
        refused("could what 2", x -> x.could(0, 2), OUTSIDE);
        refused("law what 3", x -> x.law(3), OUTSIDE);
        refused("home of 1", x -> x.home(1, 1, 0), UNKNOWN);
        refused("home, rent 100", x -> x.home(0, 100, 0), OUTSIDE);
        refused("two what 3", x -> x.two(3), OUTSIDE);
        refused("stay 10000", x -> x.stay(10000), OUTSIDE);
    }

    private static void daysRefused() {
        Due.by("refused calls change nothing");
        refused("day of seed 10000", x -> x.day(10000, 0), OUTSIDE);
        refused("day what 2", x -> x.day(1, 2), OUTSIDE);
        refused("image 2", x -> x.image(2), OUTSIDE);
        refused("image -1", x -> x.image(-1), OUTSIDE);
        refused("restore 2", x -> x.restore(2), OUTSIDE);
        refused("restore -1", x -> x.restore(-1), OUTSIDE);
        refused("restore 1, not kept", x -> x.restore(1), STATE);
        refused("told 6", x -> x.told(6), OUTSIDE);
    }

    /** A draws 0 to 9, C 9 to 12 (at 9: 20 and 6 against 12 and 3 of E), E 12 to 15, F 900 to 927. */
    private static void asking() {
        Due.by("nothing changes in fact");
        refused("fault", x -> x.fault(), -6);
        refused("served how many", x -> x.served(-1), 4);
        refused("served the third", x -> x.served(2), 4);
        refused("waits of E", x -> x.waits(4, 0), 6);
        refused("all, the end", x -> x.all(3), 927);
        refused("judge", x -> x.judge(0), -6);
        refused("left", x -> x.left(4, 4), 0);
        refused("best", x -> x.best(4, 6, 99, 0), 12);
        refused("walk", x -> x.walk(5, 60, 1), 927);
        refused("claim, of E with a cart", x -> x.claim(4, 3), 12);
        refused("lied", x -> x.lied(), 1 + 4 + 16 + 32);
        refused("could, of E with a cart", x -> x.could(4, 1), 11);
        refused("law, far", x -> x.law(0), 0);
        refused("home", x -> x.home(4, 0, 0), 12);
        refused("two", x -> x.two(0), 1);
        refused("stay", x -> x.stay(5), 1);
        refused("day", x -> x.day(0, 0), 0);
        refused("told", x -> x.told(5), 1 + 4 + 16 + 32);
    }
}
