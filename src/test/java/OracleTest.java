import java.util.ArrayList;
import java.util.List;
import java.util.Map;
import java.util.Random;
import java.util.TreeMap;

/**
 * Long runs of mixed calls, answered a second time by a slow reading of the document: its well goes
 * minute by minute, and each what-if is a whole new day.
 */
public final class OracleTest {
    private static final int RUNS = 240;
    private static final int CALLS = 512;
    private static final String[] NAMES = {"come", "stays", "person", "set", "say", "wipe", "fault", "served", "waits",
        "all", "judge", "left", "best", "walk", "claim", "lied", "could", "law", "home", "two", "stay", "day", "image",
        "restore", "told"};
    /** How often each is called: what changes much more often than what is dear to answer twice. */
    private static final int[] SHARES = {12, 2, 3, 6, 4, 1, 2, 4, 4, 4, 5, 4, 2, 4, 4, 2, 4, 3, 3, 3, 3, 3, 1, 2, 3};

    private record Comer(int miles, int minute, int pails, boolean cart) {
    }

    private record Law(int draw, int far, int stood, int halved) {
    }

    private record State(TreeMap<Integer, Comer> comers, Law law) {
        State copy() {
            return new State(new TreeMap<>(comers), law);
        }
    }

    /** A day as it went: who drew, in order; when; how much. */
    private static final class Went {
        final List<Integer> order = new ArrayList<>();
        final Map<Integer, Integer> wait = new TreeMap<>();
        final Map<Integer, Integer> end = new TreeMap<>();
        final Map<Integer, Integer> drawn = new TreeMap<>();

        int worst() {
            return wait.values().stream().mapToInt(w -> w).max().orElse(0);
        }

        int sum() {
            return wait.values().stream().mapToInt(w -> w).sum();
        }
    }

    private State now = new State(new TreeMap<>(), new Law(2, 1, 0, 0));
    private final State[] images = new State[2];
    private String row = "";

    public static void main(String[] args) {
        Random random = new Random(20261118);
        for (int run = 0; run < RUNS; run++) {
            new OracleTest().run(run, random);
        }
        Due.finish();
    }

    private void run(int run, Random random) {
        FarthestFirst x = new FarthestFirst();
        int calls = 0;
        while (calls < CALLS - 8) {
            if (random.nextInt(25) == 0) {
                calls += sayOrder(x, random);
            }
            calls++;
            int which = pick(random);
            int[] a = arguments(NAMES[which], random, 1 + run % 4);
            boolean cart = random.nextBoolean();
            String call = "run " + run + ": " + NAMES[which] + " " + java.util.Arrays.toString(a) + " " + cart + " in "
                + now + " " + row;
            Due.is(call, answer(x, NAMES[which], a, cart), due(NAMES[which], a, cart));
        }
    }

    /** Says the order, some of it, or the order with one told elsewhere: what judge and lied are for. */
    private int sayOrder(FarthestFirst x, Random random) {
        List<Integer> order = went(now, 99999).order;
        if (!order.isEmpty() && random.nextInt(3) > 0) {
            int moved = order.remove(random.nextInt(order.size()));
            order.add(random.nextInt(order.size() + 1), moved);
        }
        if (!order.isEmpty() && random.nextInt(6) == 0) {
            order.remove(order.size() - 1);
        }
        x.wipe();
        row = "";
        for (int p : order) {
            x.say('A' + p);
            row += (char) ('A' + p);
        }
        return 1 + order.size();
    }

    private static int pick(Random random) {
        int all = 0;
        for (int share : SHARES) {
            all += share;
        }
        int at = random.nextInt(all);
        int which = 0;
        while (at >= SHARES[which]) {
            at -= SHARES[which];
            which++;
        }
        return which;
    }

    private static int[] arguments(String name, Random random, int width) {
        int person = random.nextInt(40) == 0 ? off(random, 7) : random.nextInt(8);
        int what = random.nextInt(20) == 0 ? off(random, 2) : random.nextInt(4);
        int minute = some(random, 40 * width, 999);
        switch (name) {
            case "come": return new int[] {person, some(random, 6 * width * width, 99), minute, 1 + some(random, 4 * width, 8)};
            case "set": return new int[] {what, random.nextInt(3) == 0 ? random.nextInt(23) - 1 : random.nextInt(4)};
            case "say": return new int[] {random.nextInt(3) == 0 ? random.nextInt(130) : 'A' + random.nextInt(8)};
            case "served": return new int[] {random.nextInt(11) - 2};
            case "left": return new int[] {some(random, 30, 99), person};
            case "best": return new int[] {person, minute, random.nextInt(3) == 0 ? some(random, 150, 999)
                : minute + random.nextInt(30), random.nextInt(2) + (random.nextInt(20) == 0 ? 1 : 0)};
            case "walk": return new int[] {person, random.nextInt(4) == 0 ? some(random, 61, 60) : 1 + random.nextInt(8),
                random.nextInt(2) + (random.nextInt(20) == 0 ? 1 : 0)};
            case "claim": return new int[] {person, some(random, 40, 9999)};
            case "home": return new int[] {person, some(random, 3, 99), random.nextInt(2)};
            case "stay": return new int[] {some(random, 60, 9999)};
            case "day": return new int[] {some(random, 9999, 9999), random.nextInt(2)};
            case "image", "restore": return new int[] {random.nextInt(10) == 0 ? off(random, 1) : random.nextInt(2)};
            case "told": return new int[] {random.nextInt(8) - 1};
            case "stays": return new int[] {person};
            case "all", "judge", "law", "two": return new int[] {what};
            default: return new int[] {person, what};
        }
    }

    /** Mostly 0 to usual, at times up to the most, seldom outside. */
    private static int some(Random random, int usual, int most) {
        int kind = random.nextInt(40);
        if (kind == 0) {
            return off(random, most);
        }
        return kind < 4 ? random.nextInt(most + 1) : Math.min(most, random.nextInt(usual + 1));
    }

    private static int off(Random random, int most) {
        int[] wrong = {-1, most + 1, Integer.MIN_VALUE, Integer.MAX_VALUE};
        return wrong[random.nextInt(wrong.length)];
    }

    private static int answer(FarthestFirst x, String name, int[] a, boolean cart) {
        switch (name) {
            case "come": return x.come(a[0], a[1], a[2], a[3], cart);
            case "stays": return x.stays(a[0]);
            case "person": return x.person(a[0], a[1]);
            case "set": return x.set(a[0], a[1]);
            case "say": return x.say(a[0]);
            case "wipe": return x.wipe();
            case "fault": return x.fault();
            case "served": return x.served(a[0]);
            case "waits": return x.waits(a[0], a[1]);
            case "all": return x.all(a[0]);
            case "judge": return x.judge(a[0]);
            case "left": return x.left(a[0], a[1]);
            case "best": return x.best(a[0], a[1], a[2], a[3]);
            case "walk": return x.walk(a[0], a[1], a[2]);
            case "claim": return x.claim(a[0], a[1]);
            case "lied": return x.lied();
            case "could": return x.could(a[0], a[1]);
            case "law": return x.law(a[0]);
            case "home": return x.home(a[0], a[1], a[2]);
            case "two": return x.two(a[0]);
            case "stay": return x.stay(a[0]);
            case "day": return x.day(a[0], a[1]);
            case "image": return x.image(a[0]);
            case "restore": return x.restore(a[0]);
            default: return x.told(a[0]);
        }
    }

    private int due(String name, int[] a, boolean cart) {
        switch (name) {
            case "come": return come(a, cart);
            case "stays": return now.comers.remove(a[0]) == null ? -1 : now.comers.size();
            case "person": return !comes(a[0]) ? -1 : !in(a[1], 0, 3) ? -2 : person(now.comers.get(a[0]))[a[1]];
            case "set": return set(a[0], a[1]);
            case "say": return say(a[0]);
            case "wipe": return wipe();
            case "fault": return fault();
            case "told": return !in(a[0], 0, 5) ? -2 : new int[] {row.length(), now.law.draw, now.law.far, now.law.stood,
                now.law.halved, bits(now.comers)}[a[0]];
            case "image": return image(a[0]);
            case "restore": return restore(a[0]);
            case "lied": return !allTold() ? -5 : lied();
            case "could": return !comes(a[0]) ? -1 : !in(a[1], 0, 1) ? -2 : !allTold() ? -5 : could(a[0])[a[1]];
            case "law": return !in(a[0], 0, 2) ? -2 : law()[a[0]];
            case "home": return !comes(a[0]) ? -1 : !in(a[1], 0, 99) || !in(a[2], 0, 1) ? -2 : home(a[0], a[1])[a[2]];
            case "two": return !in(a[0], 0, 2) ? -2 : two()[a[0]];
            case "stay": return !in(a[0], 0, 9999) ? -2 : stay(a[0]);
            case "day": return !in(a[0], 0, 9999) || !in(a[1], 0, 1) ? -2 : day(a[0])[a[1]];
            default: return dueOfWell(name, a);
        }
    }

    private int dueOfWell(String name, int[] a) {
        Went went = went(now, 99999);
        switch (name) {
            case "served": return a[0] == -1 ? went.order.size() : in(a[0], 0, went.order.size() - 1)
                ? went.order.get(a[0]) : -6;
            case "waits": return !comes(a[0]) ? -1 : !in(a[1], 0, 1) ? -2
                : (a[1] == 0 ? went.wait : went.end).get(a[0]);
            case "all": return !in(a[0], 0, 3) ? -2 : all(went)[a[0]];
            case "judge": return !in(a[0], 0, 1) ? -2 : fault() != -6 ? -5 : judge(went)[a[0]];
            case "left": return !comes(a[1]) ? -1 : !in(a[0], 0, 99) ? -2 : went(now, a[0]).drawn.get(a[1]);
            case "best": return !comes(a[0]) ? -1
                : !in(a[1], 0, 999) || !in(a[2], 0, 999) || a[2] < a[1] || !in(a[3], 0, 1) ? -2
                : best(a[0], a[1], a[2])[a[3]];
            case "walk": return !comes(a[0]) ? -1 : !in(a[1], 1, 60) || !in(a[2], 0, 1) ? -2 : walk(a[0], a[1])[a[2]];
            default: return !comes(a[0]) ? -1 : !in(a[1], 0, 9999) ? -2 : claim(a[0], a[1]);
        }
    }

    private static boolean in(int v, int least, int most) {
        return least <= v && v <= most;
    }

    private boolean comes(int person) {
        return now.comers.containsKey(person);
    }

    private static int bits(Map<Integer, Comer> comers) {
        int bits = 0;
        for (int p : comers.keySet()) {
            bits += 1 << p;
        }
        return bits;
    }

    private static int[] person(Comer c) {
        return new int[] {c.miles, c.minute, c.pails, c.cart ? 1 : 0};
    }

    private int come(int[] a, boolean cart) {
        if (!in(a[0], 0, 7)) {
            return -1;
        }
        if (!in(a[1], 0, 99) || !in(a[2], 0, 999) || !in(a[3], 1, 9)) {
            return -2;
        }
        now.comers.put(a[0], new Comer(a[1], a[2], a[3], cart));
        return now.comers.size();
    }

    private int set(int which, int v) {
        Law law = now.law;
        if (which == 0 && in(v, 1, 20)) {
            now = new State(now.comers, new Law(v, law.far, law.stood, law.halved));
            return law.draw;
        }
        if (which == 1 && in(v, 0, 9)) {
            now = new State(now.comers, new Law(law.draw, v, law.stood, law.halved));
            return law.far;
        }
        if (which == 2 && in(v, 0, 9)) {
            now = new State(now.comers, new Law(law.draw, law.far, v, law.halved));
            return law.stood;
        }
        if (which == 3 && in(v, 0, 1)) {
            now = new State(now.comers, new Law(law.draw, law.far, law.stood, v));
            return law.halved;
        }
        return -2;
    }

    private int say(int sign) {
        if (!in(sign, 33, 126)) {
            return -2;
        }
        if (row.length() == 40) {
            return -4;
        }
        row += (char) sign;
        return row.length();
    }

    private int wipe() {
        int was = row.length();
        row = "";
        return was;
    }

    private int fault() {
        for (int i = 0; i < row.length(); i++) {
            if (!comes(row.charAt(i) - 'A') || row.indexOf(row.charAt(i)) < i) {
                return i;
            }
        }
        return -6;
    }

    private boolean allTold() {
        return fault() == -6 && row.length() == now.comers.size();
    }

    private int image(int n) {
        if (!in(n, 0, 1)) {
            return -2;
        }
        images[n] = now.copy();
        return 1;
    }

    private int restore(int n) {
        if (!in(n, 0, 1)) {
            return -2;
        }
        if (images[n] == null) {
            return -3;
        }
        now = images[n].copy();
        return 1;
    }

    private static long claimOf(Comer c, Law law, int minute) {
        int miles = law.halved == 1 && c.cart ? c.miles / 2 : c.miles;
        return (long) law.far * miles + (long) law.stood * (minute - c.minute);
    }

    /** The day, minute by minute; a well with that many pails in it. */
    private static Went went(State s, int pails) {
        Went went = new Went();
        TreeMap<Integer, Comer> yet = new TreeMap<>(s.comers);
        int free = 0;
        int rest = pails;
        for (int minute = 0; !yet.isEmpty(); minute++) {
            while (minute >= free) {
                int next = -1;
                for (int p : yet.keySet()) {
                    Comer c = yet.get(p);
                    if (c.minute > minute) {
                        continue;
                    }
                    Comer best = next < 0 ? null : yet.get(next);
                    long more = best == null ? 1 : claimOf(c, s.law, minute) - claimOf(best, s.law, minute);
                    if (more > 0 || more == 0 && c.minute < best.minute) {
                        next = p;
                    }
                }
                if (next < 0) {
                    break;
                }
                Comer c = yet.remove(next);
                int drawn = Math.min(rest, c.pails);
                rest -= drawn;
                free = minute + drawn * s.law.draw;
                went.order.add(next);
                went.wait.put(next, minute - c.minute);
                went.end.put(next, free);
                went.drawn.put(next, drawn);
            }
        }
        return went;
    }

    private static int[] all(Went went) {
        int whose = -6;
        int last = 0;
        for (int p : went.wait.keySet()) {
            if (whose == -6 && went.wait.get(p) == went.worst()) {
                whose = p;
            }
            last = Math.max(last, went.end.get(p));
        }
        return new int[] {went.worst(), whose, went.sum(), last};
    }

    private int[] judge(Went went) {
        for (int i = 0; i < row.length(); i++) {
            if (row.charAt(i) - 'A' != went.order.get(i)) {
                return new int[] {i, went.order.get(i)};
            }
        }
        return new int[] {-6, -6};
    }

    private Went with(int person, int miles, int minute) {
        State s = now.copy();
        Comer c = s.comers.get(person);
        s.comers.put(person, new Comer(miles, minute, c.pails, c.cart));
        return went(s, 99999);
    }

    private int[] best(int person, int from, int to) {
        int[] best = null;
        for (int minute = from; minute <= to; minute++) {
            int wait = with(person, now.comers.get(person).miles, minute).wait.get(person);
            if (best == null || wait < best[1]) {
                best = new int[] {minute, wait};
            }
        }
        return best;
    }

    private int[] walk(int person, int later) {
        Comer c = now.comers.get(person);
        int[] best = null;
        for (int more = 0; more <= 9; more++) {
            int end = with(person, Math.min(99, c.miles + more), c.minute + more * later).end.get(person);
            if (best == null || end < best[1]) {
                best = new int[] {more, end};
            }
        }
        return best;
    }

    private int claim(int person, int k) {
        for (int miles = 0; miles <= 99; miles++) {
            if (with(person, miles, now.comers.get(person).minute).wait.get(person) <= k) {
                return miles;
            }
        }
        return -6;
    }

    private int[] could(int person) {
        int[] span = {-6, -6};
        for (int miles = 0; miles <= 99; miles++) {
            StringBuilder order = new StringBuilder();
            for (int p : with(person, miles, now.comers.get(person).minute).order) {
                order.append((char) ('A' + p));
            }
            if (order.toString().equals(row)) {
                span[0] = span[0] == -6 ? miles : span[0];
                span[1] = miles;
            }
        }
        return span;
    }

    private int lied() {
        int bits = 0;
        for (int p : now.comers.keySet()) {
            bits += could(p)[0] == -6 ? 0 : 1 << p;
        }
        return bits;
    }

    private int[] law() {
        int[] best = null;
        int bestSum = 0;
        for (int far = 0; far <= 3; far++) {
            for (int stood = 0; stood <= 3; stood++) {
                if (far == 0 && stood == 0) {
                    continue;
                }
                Went went = went(new State(now.comers, new Law(now.law.draw, far, stood, now.law.halved)), 99999);
                if (best == null || went.worst() < best[2] || went.worst() == best[2] && went.sum() < bestSum) {
                    best = new int[] {far, stood, went.worst()};
                    bestSum = went.sum();
                }
            }
        }
        return best;
    }

    private int[] home(int person, int rent) {
        int[] best = null;
        for (int miles = 0; miles <= 99; miles++) {
            int cost = with(person, miles, now.comers.get(person).minute).wait.get(person) + rent * (99 - miles);
            if (best == null || cost < best[1]) {
                best = new int[] {miles, cost};
            }
        }
        return best;
    }

    private Went only(int set) {
        State s = now.copy();
        s.comers.keySet().removeIf(p -> (set >> p & 1) == 0);
        return went(s, 99999);
    }

    private int[] two() {
        int[] best = null;
        for (int set = 0; set < 256; set++) {
            if ((set & bits(now.comers)) != set) {
                continue;
            }
            Went second = only(set);
            Went first = only(255 - set);
            int[] it = {set, Math.max(first.worst(), second.worst()), first.sum() + second.sum()};
            if (best == null || it[1] < best[1] || it[1] == best[1] && it[2] < best[2]) {
                best = it;
            }
        }
        return best;
    }

    private int stay(int k) {
        int best = -1;
        for (int set = 0; set < 256; set++) {
            if ((set & bits(now.comers)) == set && only(255 - set).worst() <= k
                && (best < 0 || Integer.bitCount(set) < Integer.bitCount(best))) {
                best = set;
            }
        }
        return best;
    }

    private int[] day(int seed) {
        State s = now.copy();
        long x = seed;
        for (int p = 0; p < 8; p++) {
            Comer c = s.comers.get(p);
            if (c != null) {
                x = (75 * x + 74) % 65537;
                s.comers.put(p, new Comer(c.miles, (int) (x % 600), c.pails, c.cart));
            }
        }
        Went went = went(s, 99999);
        return new int[] {went.worst(), went.sum()};
    }
}
