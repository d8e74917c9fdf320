/** Promises 1 to 8: a new object, come, stays, person, set, say, wipe, fault. */
public final class PeopleTest {
    private static final int MIN = Integer.MIN_VALUE;
    private static final int MAX = Integer.MAX_VALUE;

    public static void main(String[] args) {
        newObject();
        come();
        stays();
        person();
        set();
        say();
        wipe();
        fault();
        Due.finish();
    }

    private static void newObject() {
        FarthestFirst x = new FarthestFirst();
        int[] due = {0, 2, 1, 0, 0, 0};
        for (int what = 0; what < due.length; what++) {
            Due.is("new: told " + what, x.told(what), due[what]);
        }
        for (int p = 0; p < 8; p++) {
            Due.is("new: person " + p, x.person(p, 0), -1);
        }
        Due.is("new: served(-1)", x.served(-1), 0);
        Due.is("new: fault", x.fault(), -6);
        Due.is("new: restore 0", x.restore(0), -3);
        Due.is("new: restore 1", x.restore(1), -3);
    }

    private static void come() {
        FarthestFirst x = new FarthestFirst();
        Due.is("come least", x.come(0, 0, 0, 1, false), 1);
        Due.is("come most", x.come(7, 99, 999, 9, true), 2);
        Due.is("come again otherwise", x.come(0, 5, 6, 7, true), 2);
        Due.is("miles anew", x.person(0, 0), 5);
        Due.is("minute anew", x.person(0, 1), 6);
        Due.is("pails anew", x.person(0, 2), 7);
        Due.is("cart anew", x.person(0, 3), 1);
        for (int p : new int[] {-1, 8, 32, MIN, MAX}) {
            Due.is("come of " + p, x.come(p, 0, 0, 1, false), -1);
            Due.is("come of " + p + ", nothing as told", x.come(p, -1, -1, -1, false), -1);
        }
        for (int bad : new int[] {-1, 1000, MIN, MAX}) {
            Due.is("miles " + bad, x.come(0, bad, 1, 1, false), -2);
            Due.is("minute " + bad, x.come(0, 1, bad, 1, false), -2);
            Due.is("pails " + bad, x.come(0, 1, 1, bad, false), -2);
            Due.is("one who did not come, miles " + bad, x.come(3, bad, 1, 1, false), -2);
        }
        Due.is("miles 100", x.come(0, 100, 1, 1, false), -2);
        Due.is("pails 0", x.come(0, 1, 1, 0, false), -2);
        Due.is("pails 10", x.come(0, 1, 1, 10, false), -2);
        Due.is("refused: nobody more", x.told(5), 129);
        Due.is("refused: miles stay", x.person(0, 0), 5);
        Due.is("refused: cart stays", x.person(0, 3), 1);
        for (int p = 0; p < 8; p++) {
            x.come(p, p, p, 1, false);
        }
        Due.is("all come", x.come(4, 4, 4, 4, false), 8);
        Due.is("all come, as bits", x.told(5), 255);
    }

    private static void stays() {
        FarthestFirst x = new FarthestFirst();
        for (int p : new int[] {-1, 8, 32, MIN, MAX, 0}) {
            Due.is("stays " + p + ", who did not come", x.stays(p), -1);
        }
        x.come(0, 1, 1, 1, false);
        x.come(5, 1, 1, 1, false);
        Due.is("stays 0", x.stays(0), 1);
        Due.is("stays 0 again", x.stays(0), -1);
        Due.is("5 comes still", x.told(5), 32);
        Due.is("stays 32, not 0", x.stays(32), -1);
        Due.is("stays 5", x.stays(5), 0);
        Due.is("nobody", x.told(5), 0);
        Due.is("comes again", x.come(5, 2, 2, 2, false), 1);
    }

    private static void person() {
        FarthestFirst x = new FarthestFirst();
        x.come(2, 11, 222, 3, true);
        x.come(3, 12, 223, 4, false);
        int[] second = {11, 222, 3, 1};
        int[] third = {12, 223, 4, 0};
        for (int what = 0; what < 4; what++) {
            Due.is("person(2, " + what + ")", x.person(2, what), second[what]);
            Due.is("person(3, " + what + ")", x.person(3, what), third[what]);
        }
        Due.is("what -1", x.person(2, -1), -2);
        Due.is("what 4", x.person(2, 4), -2);
        Due.is("does not come", x.person(1, 0), -1);
        Due.is("does not come, what 4", x.person(1, 4), -1);
        Due.is("person 8", x.person(8, 0), -1);
        Due.is("person -1, what -1", x.person(-1, -1), -1);
        Due.is("person 34, not 2", x.person(34, 0), -1);
        x.stays(2);
        Due.is("who stays is not known", x.person(2, 0), -1);
    }

    private static void set() {
        FarthestFirst x = new FarthestFirst();
        int[] first = {2, 1, 0, 0};
        int[] least = {1, 0, 0, 0};
        int[] most = {20, 9, 9, 1};
        for (int which = 0; which < 4; which++) {
            Due.is("most of " + which, x.set(which, most[which]), first[which]);
            Due.is("told most", x.told(which + 1), most[which]);
            for (int bad : new int[] {least[which] - 1, most[which] + 1, MIN, MAX}) {
                Due.is("set(" + which + ", " + bad + ")", x.set(which, bad), -2);
            }
            Due.is("refused: stays", x.told(which + 1), most[which]);
            Due.is("least of " + which, x.set(which, least[which]), most[which]);
            Due.is("told least", x.told(which + 1), least[which]);
            Due.is("as it is", x.set(which, least[which]), least[which]);
        }
        for (int which : new int[] {-1, 4, MIN, MAX}) {
            Due.is("set which " + which, x.set(which, 1), -2);
        }
    }

    private static void say() {
        FarthestFirst x = new FarthestFirst();
        for (int bad : new int[] {32, 127, 0, -1, 65 + 256, MIN, MAX}) {
            Due.is("say " + bad, x.say(bad), -2);
        }
        Due.is("say 33", x.say(33), 1);
        Due.is("say 126", x.say(126), 2);
        for (int i = 3; i <= 40; i++) {
            Due.is("sign " + i, x.say('A'), i);
        }
        Due.is("sign 41", x.say('A'), -4);
        Due.is("sign 41 that is outside", x.say(127), -2);
        Due.is("still 40", x.told(0), 40);
    }

    private static void wipe() {
        FarthestFirst x = new FarthestFirst();
        Due.is("wipe nothing", x.wipe(), 0);
        Due.say(x, "HELLO");
        Due.is("wipe", x.wipe(), 5);
        Due.is("wiped", x.told(0), 0);
        Due.is("wipe again", x.wipe(), 0);
        Due.is("say after wipe", x.say('A'), 1);
        for (int i = 0; i < 39; i++) {
            x.say('B');
        }
        Due.is("full", x.say('B'), -4);
        Due.is("wipe a full pad", x.wipe(), 40);
        Due.is("room again", x.say('B'), 1);
    }

    private static void fault() {
        FarthestFirst x = new FarthestFirst();
        Due.is("empty row", x.fault(), -6);
        x.come(0, 1, 1, 1, false);
        x.come(7, 1, 1, 1, false);
        x.come(3, 1, 1, 1, false);
        String[] rows = {"", "A", "HA", "AHD", "B", "AB", "AHDA", "AA", "a", "AI", "A@", "HA!", "AHDxA", "DD", "AH~"};
        int[] due = {-6, -6, -6, -6, 0, 1, 3, 1, 0, 1, 1, 2, 3, 1, 2};
        for (int i = 0; i < rows.length; i++) {
            Due.say(x, rows[i]);
            Due.is("fault of " + rows[i], x.fault(), due[i]);
            x.wipe();
        }
        Due.say(x, "AHD");
        x.stays(7);
        Due.is("one told no longer comes", x.fault(), 1);
        x.come(7, 1, 1, 1, false);
        Due.is("it comes again", x.fault(), -6);
        for (int i = 0; i < 37; i++) {
            x.say('A');
        }
        Due.is("a full pad", x.fault(), 3);
    }
}
