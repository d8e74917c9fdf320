/** At a well, who has come from farthest draws first. */
public final class FarthestFirst {
    public static final int UNKNOWN = -1, OUTSIDE = -2, STATE = -3, FULL = -4, NO = -5, NONE = -6;

    private static final int PEOPLE = 8;
    private static final int MOST_MILES = 99;
    private static final int LAST_MINUTE = 999;
    private static final int MOST_PAILS = 9;
    private static final int MOST_DRAW = 20;
    private static final int MOST_WEIGHT = 9;
    private static final int MOST_IN_WELL = 99;
    private static final int MOST_WALKED = 9;
    private static final int MOST_LATER = 60;
    private static final int LONGEST_WAIT = 9999;
    private static final int MOST_RENT = 99;
    private static final int LAST_SEED = 9999;
    private static final int DAY_MINUTES = 600;
    private static final int IMAGES = 2;
    private static final int LAWS = 16;

    private final Village now;
    /** Where a what-if is tried, so that nothing changes in fact. */
    private final Village trial;
    private final Village[] images;
    private final boolean[] kept;
    private final Well well;
    private final Pad pad;

    public FarthestFirst() {
        now = new Village();
        trial = new Village();
        images = new Village[IMAGES];
        for (int n = 0; n < IMAGES; n++) {
            images[n] = new Village();
        }
        kept = new boolean[IMAGES];
        well = new Well();
        pad = new Pad();
    }

    // ---- 1 people

    public int come(int person, int miles, int minute, int pails, boolean cart) {
        if (!within(person, 0, PEOPLE - 1)) {
            return UNKNOWN;
        }
        if (!within(miles, 0, MOST_MILES) || !within(minute, 0, LAST_MINUTE) || !within(pails, 1, MOST_PAILS)) {
            return OUTSIDE;
        }
        now.miles[person] = miles;
        now.minute[person] = minute;
        now.pails[person] = pails;
        now.cart[person] = cart;
        now.comers |= 1 << person;
        return Integer.bitCount(now.comers);
    }

    public int stays(int person) {
        if (!now.comes(person)) {
            return UNKNOWN;
        }
        now.comers &= ~(1 << person);
        return Integer.bitCount(now.comers);
    }

    public int person(int person, int what) {
        if (!now.comes(person)) {
            return UNKNOWN;
        }
        switch (what) {
            case 0: return now.miles[person];
            case 1: return now.minute[person];
            case 2: return now.pails[person];
            case 3: return now.cart[person] ? 1 : 0;
            default: return OUTSIDE;
        }
    }

    public int set(int which, int v) {
        if (!within(which, 0, 3) || !within(v, leastOf(which), mostOf(which))) {
            return OUTSIDE;
        }
        int was = now.setting(which);
        now.change(which, v);
        return was;
    }

    public int say(int sign) {
        if (!within(sign, Pad.FIRST_SIGN, Pad.LAST_SIGN)) {
            return OUTSIDE;
        }
        return pad.add(sign) ? pad.count : FULL;
    }

    public int wipe() {
        int was = pad.count;
        pad.count = 0;
        return was;
    }

    public int fault() {
        return pad.faultAmong(now.comers);
    }

    // ---- 2 the well

    public int served(int i) {
        well.run(now, now.comers);
        if (i == -1) {
            return well.turns;
        }
        return within(i, 0, well.turns - 1) ? well.order[i] : NONE;
    }

    public int waits(int person, int what) {
        if (!now.comes(person)) {
            return UNKNOWN;
        }
        if (!within(what, 0, 1)) {
            return OUTSIDE;
        }
        well.run(now, now.comers);
        return what == 0 ? well.wait[person] : well.end[person];
    }

    public int all(int what) {
        if (!within(what, 0, 3)) {
            return OUTSIDE;
        }
        well.run(now, now.comers);
        switch (what) {
            case 0: return well.worst;
            case 1: return well.worstOff();
            case 2: return well.sum;
            default: return well.time;
        }
    }

    public int judge(int what) {
        if (!within(what, 0, 1)) {
            return OUTSIDE;
        }
        if (pad.faultAmong(now.comers) != NONE) {
            return NO;
        }
        well.run(now, now.comers);
        // A row without a fault tells nobody twice, so it is no longer than the order.
        for (int place = 0; place < pad.count && place < well.turns; place++) {
            if (pad.personAt(place) != well.order[place]) {
                return what == 0 ? place : well.order[place];
            }
        }
        return NONE;
    }

    public int left(int p, int person) {
        if (!now.comes(person)) {
            return UNKNOWN;
        }
        if (!within(p, 0, MOST_IN_WELL)) {
            return OUTSIDE;
        }
        // Who draws less than all its pails empties the well, so until then the order is the
        // ordinary one, and after that it no longer matters.
        well.run(now, now.comers);
        int rest = p;
        for (int i = 0; i < well.turns; i++) {
            int drawn = Math.min(rest, now.pails[well.order[i]]);
            if (well.order[i] == person) {
                return drawn;
            }
            rest -= drawn;
        }
        return 0;
    }

    public int best(int person, int from, int to, int what) {
        if (!now.comes(person)) {
            return UNKNOWN;
        }
        if (!within(from, 0, LAST_MINUTE) || !within(to, from, LAST_MINUTE) || !within(what, 0, 1)) {
            return OUTSIDE;
        }
        leaveOut(person);
        int bestMinute = from;
        int least = waitIf(person, now.miles[person], from);
        // No wait is less than none: the search can end there.
        for (int minute = from + 1; minute <= to && least > 0; minute++) {
            int wait = waitIf(person, now.miles[person], minute);
            if (wait < least) {
                least = wait;
                bestMinute = minute;
            }
        }
        return what == 0 ? bestMinute : least;
    }

    public int walk(int person, int later, int what) {
        if (!now.comes(person)) {
            return UNKNOWN;
        }
        if (!within(later, 1, MOST_LATER) || !within(what, 0, 1)) {
            return OUTSIDE;
        }
        leaveOut(person);
        int bestMore = 0;
        int least = endIfWalked(person, 0, later);
        for (int more = 1; more <= MOST_WALKED; more++) {
            int end = endIfWalked(person, more, later);
            if (end < least) {
                least = end;
                bestMore = more;
            }
        }
        return what == 0 ? bestMore : least;
    }

    public int claim(int person, int k) {
        if (!now.comes(person)) {
            return UNKNOWN;
        }
        if (!within(k, 0, LONGEST_WAIT)) {
            return OUTSIDE;
        }
        leaveOut(person);
        for (int miles = 0; miles <= MOST_MILES; miles++) {
            if (waitIf(person, miles, now.minute[person]) <= k) {
                return miles;
            }
        }
        return NONE;
    }

    // ---- 3 liars, laws, homes

    public int lied() {
        if (!allTold()) {
            return NO;
        }
        int liars = 0;
        for (int person = 0; person < PEOPLE; person++) {
            if (now.comes(person) && milesThatBring(person, true) != NONE) {
                liars |= 1 << person;
            }
        }
        return liars;
    }

    public int could(int person, int what) {
        if (!now.comes(person)) {
            return UNKNOWN;
        }
        if (!within(what, 0, 1)) {
            return OUTSIDE;
        }
        return allTold() ? milesThatBring(person, what == 0) : NO;
    }

    public int law(int what) {
        if (!within(what, 0, 2)) {
            return OUTSIDE;
        }
        trial.copy(now);
        int bestLaw = 1;
        runUnder(bestLaw);
        int worst = well.worst;
        int sum = well.sum;
        for (int law = 2; law < LAWS; law++) {
            runUnder(law);
            if (better(well.worst, well.sum, worst, sum)) {
                bestLaw = law;
                worst = well.worst;
                sum = well.sum;
            }
        }
        switch (what) {
            case 0: return bestLaw / 4;
            case 1: return bestLaw % 4;
            default: return worst;
        }
    }

    public int home(int person, int rent, int what) {
        if (!now.comes(person)) {
            return UNKNOWN;
        }
        if (!within(rent, 0, MOST_RENT) || !within(what, 0, 1)) {
            return OUTSIDE;
        }
        leaveOut(person);
        int bestMiles = 0;
        int least = costOfLiving(person, 0, rent);
        for (int miles = 1; miles <= MOST_MILES; miles++) {
            int cost = costOfLiving(person, miles, rent);
            if (cost < least) {
                least = cost;
                bestMiles = miles;
            }
        }
        return what == 0 ? bestMiles : least;
    }

    public int two(int what) {
        if (!within(what, 0, 2)) {
            return OUTSIDE;
        }
        well.run(now, now.comers);
        int bestSet = 0;
        int worst = well.worst;
        int sum = well.sum;
        for (int set = 1; set <= now.comers; set++) {
            int others = now.comers & ~set;
            // The wells are alike: of a set and its others only the lesser one can be the least.
            if ((set & ~now.comers) != 0 || set > others) {
                continue;
            }
            well.run(now, set);
            int worstThere = well.worst;
            int sumThere = well.sum;
            well.run(now, others);
            int worstOfBoth = Math.max(worstThere, well.worst);
            int sumOfBoth = sumThere + well.sum;
            if (better(worstOfBoth, sumOfBoth, worst, sum)) {
                bestSet = set;
                worst = worstOfBoth;
                sum = sumOfBoth;
            }
        }
        switch (what) {
            case 0: return bestSet;
            case 1: return worst;
            default: return sum;
        }
    }

    public int stay(int k) {
        if (!within(k, 0, LONGEST_WAIT)) {
            return OUTSIDE;
        }
        // If nobody comes, nobody waits: all who come are a set that always does.
        int bestSet = now.comers;
        for (int set = 0; set < now.comers; set++) {
            if ((set & ~now.comers) == 0 && Integer.bitCount(set) < Integer.bitCount(bestSet)) {
                well.run(now, now.comers & ~set);
                if (well.worst <= k) {
                    bestSet = set;
                }
            }
        }
        return bestSet;
    }

    // ---- 4 days

    public int day(int seed, int what) {
        if (!within(seed, 0, LAST_SEED) || !within(what, 0, 1)) {
            return OUTSIDE;
        }
        trial.copy(now);
        int x = seed;
        for (int person = 0; person < PEOPLE; person++) {
            if (now.comes(person)) {
                x = (75 * x + 74) % 65537;
                trial.minute[person] = x % DAY_MINUTES;
            }
        }
        well.run(trial, trial.comers);
        return what == 0 ? well.worst : well.sum;
    }

    public int image(int n) {
        if (!within(n, 0, IMAGES - 1)) {
            return OUTSIDE;
        }
        images[n].copy(now);
        kept[n] = true;
        return 1;
    }

    public int restore(int n) {
        if (!within(n, 0, IMAGES - 1)) {
            return OUTSIDE;
        }
        if (!kept[n]) {
            return STATE;
        }
        now.copy(images[n]);
        return 1;
    }

    public int told(int what) {
        if (!within(what, 0, 5)) {
            return OUTSIDE;
        }
        if (what == 0) {
            return pad.count;
        }
        return what == 5 ? now.comers : now.setting(what - 1);
    }

    // ---- what the calls share

    private static boolean within(int v, int least, int most) {
        return v >= least && v <= most;
    }

    private static int leastOf(int which) {
        return which == Village.DRAW ? 1 : 0;
    }

    private static int mostOf(int which) {
        switch (which) {
            case Village.DRAW: return MOST_DRAW;
            case Village.HALVED: return 1;
            default: return MOST_WEIGHT;
        }
    }

    /** Runs the well without the person, as waitIf, endIfWalked and costOfLiving need it. */
    private void leaveOut(int person) {
        trial.copy(now);
        well.run(now, now.comers & ~(1 << person));
    }

    private int beginIf(int person, int miles, int minute) {
        trial.miles[person] = miles;
        trial.minute[person] = minute;
        return well.beginOfOneMore(trial, person);
    }

    private int waitIf(int person, int miles, int minute) {
        return beginIf(person, miles, minute) - minute;
    }

    private int endIfWalked(int person, int more, int later) {
        int miles = Math.min(MOST_MILES, now.miles[person] + more);
        return beginIf(person, miles, now.minute[person] + more * later) + now.timeToDraw(person);
    }

    private int costOfLiving(int person, int miles, int rent) {
        return waitIf(person, miles, now.minute[person]) + rent * (MOST_MILES - miles);
    }

    private boolean allTold() {
        return pad.faultAmong(now.comers) == NONE && pad.count == Integer.bitCount(now.comers);
    }

    /** The least (or else the greatest) miles of a person by which the order is the pad's row. */
    private int milesThatBring(int person, boolean least) {
        trial.copy(now);
        for (int i = 0; i <= MOST_MILES; i++) {
            int miles = least ? i : MOST_MILES - i;
            trial.miles[person] = miles;
            if (well.keepsTo(trial, pad)) {
                return miles;
            }
        }
        return NONE;
    }

    /** The worst off count first, all together only where these are alike. */
    private static boolean better(int worst, int sum, int otherWorst, int otherSum) {
        return worst < otherWorst || worst == otherWorst && sum < otherSum;
    }

    /** A law is 4 times FAR, and STOOD. */
    private void runUnder(int law) {
        trial.change(Village.FAR, law / 4);
        trial.change(Village.STOOD, law % 4);
        well.run(trial, trial.comers);
    }

    /** Who comes, and the law: all that an image keeps. */
    private static final class Village {
        static final int DRAW = 0;
        static final int FAR = 1;
        static final int STOOD = 2;
        static final int HALVED = 3;
        static final int SETTINGS = 4;

        final int[] miles = new int[PEOPLE];
        final int[] minute = new int[PEOPLE];
        final int[] pails = new int[PEOPLE];
        final boolean[] cart = new boolean[PEOPLE];
        int comers;
        private final int[] settings = new int[SETTINGS];

        Village() {
            settings[DRAW] = 2;
            settings[FAR] = 1;
        }

        void copy(Village other) {
            for (int person = 0; person < PEOPLE; person++) {
                miles[person] = other.miles[person];
                minute[person] = other.minute[person];
                pails[person] = other.pails[person];
                cart[person] = other.cart[person];
            }
            for (int which = 0; which < SETTINGS; which++) {
                settings[which] = other.settings[which];
            }
            comers = other.comers;
        }

        int setting(int which) {
            return which >= 0 && which < SETTINGS ? settings[which] : OUTSIDE;
        }

        void change(int which, int v) {
            if (which >= 0 && which < SETTINGS) {
                settings[which] = v;
            }
        }

        boolean comes(int person) {
            return person >= 0 && person < PEOPLE && (comers >> person & 1) != 0;
        }

        int timeToDraw(int person) {
            return settings[DRAW] * pails[person];
        }

        /** The first minute at which one of the set has come; NONE: nobody is in it. */
        int firstComing(int set) {
            int first = NONE;
            for (int person = 0; person < PEOPLE; person++) {
                boolean among = (set >> person & 1) != 0;
                if (among && (first == NONE || minute[person] < first)) {
                    first = minute[person];
                }
            }
            return first;
        }

        /** Who of the set draws at a time at which the well is free; NONE: none of it has come. */
        int nextAt(int time, int set) {
            int next = NONE;
            for (int person = 0; person < PEOPLE; person++) {
                boolean waits = (set >> person & 1) != 0 && minute[person] <= time;
                if (waits && (next == NONE || goesBefore(person, next, time))) {
                    next = person;
                }
            }
            return next;
        }

        boolean goesBefore(int person, int other, int time) {
            int claim = claimAt(time, person);
            int otherClaim = claimAt(time, other);
            if (claim != otherClaim) {
                return claim > otherClaim;
            }
            if (minute[person] != minute[other]) {
                return minute[person] < minute[other];
            }
            return person < other;
        }

        private int claimAt(int time, int person) {
            boolean halved = settings[HALVED] == 1 && cart[person];
            int counted = halved ? miles[person] / 2 : miles[person];
            return settings[FAR] * counted + settings[STOOD] * (time - minute[person]);
        }
    }

    /** One day at a well: run anew for each question, always in the same rows. */
    private static final class Well {
        final int[] order = new int[PEOPLE];
        final int[] begin = new int[PEOPLE];
        final int[] end = new int[PEOPLE];
        final int[] wait = new int[PEOPLE];
        int turns;
        int worst;
        int sum;
        /** When the well is free again: after a run the end of the last one. */
        int time;
        private int comers;
        private int rest;

        void run(Village people, int set) {
            start(set);
            for (int turn = 0; turn < PEOPLE; turn++) {
                if (serveNext(people) == NONE) {
                    break;
                }
            }
        }

        /** Whether all who come are served in the pad's row, on which each of them is told. */
        boolean keepsTo(Village people, Pad row) {
            start(people.comers);
            for (int place = 0; place < row.count && place < PEOPLE; place++) {
                if (serveNext(people) != row.personAt(place)) {
                    return false;
                }
            }
            return true;
        }

        /**
         * When a person would begin to draw who was left out of the run: until then the others
         * are served as without it, so their turns need not be run again.
         */
        int beginOfOneMore(Village people, int person) {
            int coming = people.minute[person];
            int free = 0;
            for (int i = 0; i < turns; i++) {
                int other = order[i];
                int chance = Math.max(coming, free);
                boolean nobodyElse = chance < begin[other];
                boolean ahead = chance == begin[other] && people.goesBefore(person, other, chance);
                if (nobodyElse || ahead) {
                    return chance;
                }
                free = end[other];
            }
            return Math.max(coming, free);
        }

        /** Of those who wait longest the first by numbers. */
        int worstOff() {
            for (int person = 0; person < PEOPLE; person++) {
                if ((comers >> person & 1) != 0 && wait[person] == worst) {
                    return person;
                }
            }
            return NONE;
        }

        private void start(int set) {
            comers = set;
            rest = set;
            turns = 0;
            worst = 0;
            sum = 0;
            time = 0;
        }

        private int serveNext(Village people) {
            if (rest == 0 || turns >= PEOPLE) {
                return NONE;
            }
            time = Math.max(time, people.firstComing(rest));
            int next = people.nextAt(time, rest);
            if (next == NONE) {
                return NONE;
            }
            begin[next] = time;
            wait[next] = time - people.minute[next];
            time += people.timeToDraw(next);
            end[next] = time;
            worst = Math.max(worst, wait[next]);
            sum += wait[next];
            order[turns] = next;
            turns++;
            rest &= ~(1 << next);
            return next;
        }
    }

    /** The signs of a told row. */
    private static final class Pad {
        static final int FIRST_SIGN = 33;
        static final int LAST_SIGN = 126;
        static final int MOST_SIGNS = 40;

        int count;
        private final int[] signs = new int[MOST_SIGNS];

        boolean add(int sign) {
            if (count >= MOST_SIGNS) {
                return false;
            }
            signs[count] = sign;
            count++;
            return true;
        }

        /** Who is told at a place; NONE: no letter of people stands there. */
        int personAt(int place) {
            if (place < 0 || place >= count) {
                return NONE;
            }
            int person = signs[place] - 'A';
            return person >= 0 && person < PEOPLE ? person : NONE;
        }

        /** The first place whose sign is no letter of who comes, or told before; NONE. */
        int faultAmong(int comers) {
            int untold = comers;
            for (int place = 0; place < count; place++) {
                int person = personAt(place);
                if (person == NONE || (untold >> person & 1) == 0) {
                    return place;
                }
                untold &= ~(1 << person);
            }
            return NONE;
        }
    }
}
