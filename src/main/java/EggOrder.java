/**
 * EGGS that hatch only in the ORDER in which they were laid, in six HOUSES with stoves.
 * Every row is made in the constructor and used again, so that no call makes anything.
 */
public final class EggOrder {
    public static final int UNKNOWN = -1, OUTSIDE = -2, STATE = -3, FULL = -4, NO = -5, NONE = -6;
    public static final long GONE = -1000000000000000000L;

    private static final int MOST_EGGS = 7, EGGS_AT_FIRST = 4, HOUSES = 6, SETS_OF_HOUSES = 64;
    private static final int MOST_SIGNS = 60, MOST_CLUES = 12, MOST_SIGHTS = 7, MOST_HOUR = 60;
    private static final int MOST_WARMTH = 9, MOST_WORTH = 99, MOST_COST = 99;
    private static final int NEED = 0, WARMTH = 1, WORTH = 2, HOUSE = 3, KIND = 4, FACTS = 5;
    private static final int WHOLE = 0, HATCHED = 1, EATEN = 2;
    private static final int IS_HATCHED = 1, IS_EATEN = 2, IS_WHOLE = 3;
    private static final int AHEAD = 0, RIGHT_AHEAD = 1, AT = 2, NOT_AT = 3;
    /** No refusal. */
    private static final int FINE = 0;
    /** The HOUR of an EGG that hatches in none: behind every HOUR that a WEEK can have. */
    private static final int NEVER = 1000;
    private static final int ANY_HOUR = -1, NO_HOUR_FITS = -2;
    /** Of the 720 rows of six HOUSES, those in which just a set of 0, 1 .. 5 others stands ahead. */
    private static final int[] ROWS_BY_SIZE = {120, 24, 12, 12, 24, 120};
    private static final int ROWS_OF_HOUSES = 720;

    private final Scene now = new Scene();
    private final Scene firstImage = new Scene();
    private final Scene secondImage = new Scene();
    private final Pad pad = new Pad();
    private final Week week = new Week();
    private final Fitting fitting = new Fitting();
    private final Coop trial = new Coop();

    public EggOrder() {
        now.coop.startWith(EGGS_AT_FIRST);
    }

    // ---- 1 eggs, houses

    public int eggs(int n) {
        if (!isWithin(n, 1, MOST_EGGS)) return OUTSIDE;
        int before = now.coop.count;
        now.coop.startWith(n);
        now.hints.clueCount = 0;
        now.hints.sightCount = 0;
        return before;
    }

    public int egg(int egg, int what, int v) {
        if (!now.coop.has(egg)) return UNKNOWN;
        if (!isFactFor(what, v)) return OUTSIDE;
        if (what == WARMTH && !now.coop.isWhole(egg)) return STATE;
        int before = now.coop.fact(egg, what);
        now.coop.setFact(egg, what, v);
        return before;
    }

    public int stove(int house, boolean is) {
        if (!isWithin(house, 0, HOUSES - 1)) return UNKNOWN;
        if (hasBit(now.coop.stoves, house) != is) now.coop.turnStove(house);
        return now.coop.stoves;
    }

    public int say(int sign) {
        if (!isWithin(sign, 33, 126)) return OUTSIDE;
        if (pad.count >= MOST_SIGNS) return FULL;
        pad.add(sign);
        return pad.count;
    }

    public int wipe() {
        int before = pad.count;
        pad.count = 0;
        return before;
    }

    public int fault(int how) {
        if (!isWithin(how, 0, 1)) return OUTSIDE;
        return how == 0 ? pad.orderFault(now.coop.count) : pad.weekFault(now.coop.count);
    }

    public int order() {
        if (pad.orderFault(now.coop.count) != NONE) return NO;
        if (!now.coop.areAllWhole()) return STATE;
        for (int place = 0; place < now.coop.count; place++) {
            put(now.coop.row, place, pad.sign(place) - '0');
        }
        pad.count = 0;
        return 1;
    }

    // ---- 2 weeks

    public int judge(int what) {
        if (!isWithin(what, 0, 3)) return OUTSIDE;
        int refusal = week.run(pad, now.coop);
        if (refusal == NO || (refusal == STATE && what >= 2)) return refusal;
        switch (what) {
            case 0: return week.why == 0 ? NONE : week.acts;
            case 1: return week.why == 0 ? NONE : week.why;
            case 2: return week.hours;
            default: return week.hatches;
        }
    }

    public int behind(int egg, int what) {
        if (!now.coop.has(egg)) return UNKNOWN;
        if (!isWithin(what, 0, 2)) return OUTSIDE;
        int refusal = week.run(pad, now.coop);
        return refusal != FINE ? refusal : week.coop.condition(egg, what);
    }

    public int hatched(int egg) {
        if (!now.coop.has(egg)) return UNKNOWN;
        int refusal = week.run(pad, now.coop);
        return refusal != FINE ? refusal : at(week.hatchHours, egg);
    }

    public int stops(int what) {
        if (!isWithin(what, 0, 1)) return OUTSIDE;
        int refusal = week.run(pad, now.coop);
        if (refusal != FINE) return refusal;
        int place = week.coop.stopPlace();
        if (what == 1) return week.coop.warmBehind(place);
        return place < week.coop.count ? at(week.coop.row, place) : NONE;
    }

    public int done() {
        int refusal = week.run(pad, now.coop);
        if (refusal != FINE) return refusal;
        now.coop.copyFrom(week.coop);
        pad.count = 0;
        return week.acts;
    }

    public int state(int egg, int what) {
        if (!now.coop.has(egg)) return UNKNOWN;
        if (!isWithin(what, 0, 2)) return OUTSIDE;
        return now.coop.condition(egg, what);
    }

    // ---- 3 clues

    public int clue(int kind, int egg, int other) {
        if (!isWithin(kind, AHEAD, NOT_AT)) return OUTSIDE;
        if (!now.coop.has(egg)) return UNKNOWN;
        boolean isOfTwoEggs = kind == AHEAD || kind == RIGHT_AHEAD;
        if (isOfTwoEggs && (!now.coop.has(other) || other == egg)) return UNKNOWN;
        if (!isOfTwoEggs && !isWithin(other, 0, now.coop.count - 1)) return OUTSIDE;
        if (now.hints.clueCount >= MOST_CLUES) return FULL;
        now.hints.addClue(kind, egg, other);
        return now.hints.clueCount;
    }

    public int seen(int egg, int hour) {
        if (!now.coop.has(egg)) return UNKNOWN;
        if (!isWithin(hour, 0, MOST_HOUR)) return OUTSIDE;
        if (now.hints.sightCount >= MOST_SIGHTS) return FULL;
        now.hints.addSight(egg, hour);
        return now.hints.sightCount;
    }

    public int forget(int which) {
        if (!isWithin(which, 0, 1)) return OUTSIDE;
        int before = which == 0 ? now.hints.clueCount : now.hints.sightCount;
        if (which == 0) now.hints.clueCount = 0;
        else now.hints.sightCount = 0;
        return before;
    }

    public int fits(int place) {
        int refusal = findFitting();
        if (refusal != FINE) return refusal;
        if (place == -1) return fitting.total;
        if (fitting.total == 0 || !isWithin(place, 0, now.coop.count - 1)) return NONE;
        return at(fitting.first, place);
    }

    public int places(int egg) {
        if (!now.coop.has(egg)) return UNKNOWN;
        int refusal = findFitting();
        return refusal != FINE ? refusal : fitting.placesOf(egg);
    }

    public int firsts() {
        int refusal = findFitting();
        return refusal != FINE ? refusal : fitting.eggsAtFirstPlace();
    }

    public int certain(int egg, int other) {
        if (!now.coop.has(egg) || !now.coop.has(other) || egg == other) return UNKNOWN;
        int refusal = findFitting();
        if (refusal != FINE) return refusal;
        if (fitting.total == 0) return NONE;
        if (!hasBit(at(fitting.aheadInSome, egg), other)) return 1;
        return hasBit(at(fitting.aheadInSome, other), egg) ? 0 : 2;
    }

    public int ask(int what) {
        if (!isWithin(what, 0, 1)) return OUTSIDE;
        int refusal = findFitting();
        if (refusal != FINE) return refusal;
        if (fitting.total == 0) return NONE;
        int best = 0;
        for (int egg = 1; egg < now.coop.count; egg++) {
            if (fitting.mostLeft(egg) < fitting.mostLeft(best)) best = egg;
        }
        return what == 0 ? best : fitting.mostLeft(best);
    }

    // ---- 4 chains, houses

    public int mend(int what) {
        if (!isWithin(what, 0, 1)) return OUTSIDE;
        int bits = now.coop.eatenAheadOfWhole();
        return what == 0 ? Integer.bitCount(bits) : bits;
    }

    public int soonest(int c) {
        if (!isWithin(c, 1, HOUSES)) return OUTSIDE;
        int longest = 0;
        int sum = 0;
        for (int house = 0; house < HOUSES; house++) {
            int hours = now.coop.hoursToHeat(house);
            longest = Math.max(longest, hours);
            sum += hours;
        }
        // Stoves are changed at will, so only the longest HOUSE and the sum of all can hold it up.
        return Math.max(longest, (sum + c - 1) / c);
    }

    public int rests(int cost, int i) {
        if (!isWithin(cost, 0, MOST_COST)) return OUTSIDE;
        int free = now.coop.housesOfWhole();
        int count = 0;
        for (int heating = 0; heating < SETS_OF_HOUSES; heating++) {
            if ((heating & ~free) != 0 || !isRest(heating, free, cost)) continue;
            if (count == i) return heating;
            count++;
        }
        return i == -1 ? count : NONE;
    }

    public long shapley(int house, int part) {
        if (!isWithin(house, 0, HOUSES - 1)) return GONE + UNKNOWN;
        if (!isWithin(part, 0, 1)) return GONE + OUTSIDE;
        long sum = 0;
        for (int others = 0; others < SETS_OF_HOUSES; others++) {
            if (hasBit(others, house)) continue;
            int added = worthIfHeated(others | bit(house)) - worthIfHeated(others);
            sum += (long) at(ROWS_BY_SIZE, Integer.bitCount(others)) * added;
        }
        return lowest(sum, ROWS_OF_HOUSES, part);
    }

    public long hope(int t, int what, int part) {
        if (!isWithin(t, 0, 10) || !isWithin(what, 0, 1) || !isWithin(part, 0, 1)) return GONE + OUTSIDE;
        int whole = now.coop.countWhole();
        int reached = now.coop.countWholeAheadOfEaten();
        // By how many ways of ten each: the k-th whole one hatches if it and all k ahead are left.
        long all = 1;
        long left = 1;
        long mean = 0;
        for (int k = 0; k < reached && k < MOST_EGGS; k++) {
            all *= 10;
            left *= 10 - t;
            mean = mean * 10 + left;
        }
        if (what == 0) return lowest(mean, all, part);
        return lowest(reached == whole ? left : 0, all, part);
    }

    public int year(int seed, int m, int what) {
        if (!isWithin(seed, 0, 9999) || !isWithin(m, 1, 99) || !isWithin(what, 0, 2)) return OUTSIDE;
        trial.copyFrom(now.coop);
        int x = seed;
        int hatches = 0;
        int last = 0;
        int stoveHours = 0;
        for (int hour = 1; hour <= m; hour++) {
            x = (75 * x + 74) % 65537;
            trial.turnStove(x % HOUSES);
            stoveHours += Integer.bitCount(trial.stoves);
            int hatching = Integer.bitCount(trial.passHour());
            hatches += hatching;
            if (hatching > 0) last = hour;
        }
        if (what == 0) return hatches;
        return what == 1 ? last : stoveHours;
    }

    public int image(int k) {
        if (!isWithin(k, 0, 1)) return OUTSIDE;
        Scene kept = k == 0 ? firstImage : secondImage;
        kept.copyFrom(now);
        kept.isKept = true;
        return 1;
    }

    public int restore(int k) {
        if (!isWithin(k, 0, 1)) return OUTSIDE;
        Scene kept = k == 0 ? firstImage : secondImage;
        if (!kept.isKept) return STATE;
        now.copyFrom(kept);
        return 1;
    }

    public int told(int what) {
        switch (what) {
            case 0: return pad.count;
            case 1: return now.coop.count;
            case 2: return now.coop.stoves;
            case 3: return now.hints.clueCount;
            case 4: return now.hints.sightCount;
            default: break;
        }
        if (isWithin(what, 10, 10 + now.coop.count - 1)) return at(now.coop.row, what - 10);
        if (what < 20) return OUTSIDE;
        int egg = what / 10 - 2;
        int fact = what % 10;
        return now.coop.has(egg) && fact < FACTS ? now.coop.fact(egg, fact) : OUTSIDE;
    }

    // ---- what several calls share

    /** All orders that fit are looked for; what is found stands in fitting. */
    private int findFitting() {
        boolean bySights = now.hints.sightCount > 0;
        if (bySights) {
            if (pad.weekFault(now.coop.count) != NONE || pad.eatsOrMends()) return NO;
            if (!now.coop.areAllWhole()) return STATE;
        }
        fitting.begin(now.coop.count);
        fitting.takeClues(now.hints);
        if (bySights) {
            fitting.takeWeek(pad, now.coop);
            fitting.takeSights(now.hints);
        }
        fitting.search();
        return FINE;
    }

    private boolean isRest(int heating, int free, int cost) {
        for (int house = 0; house < HOUSES; house++) {
            if (!hasBit(free, house)) continue;
            int otherwise = heating ^ bit(house);
            if (gainOf(house, otherwise, cost) > gainOf(house, heating, cost)) return false;
        }
        return true;
    }

    private int gainOf(int house, int heating, int cost) {
        int worth = now.coop.worthOf(now.coop.hatchingIfHeated(heating), bit(house));
        return hasBit(heating, house) ? worth - cost : worth;
    }

    private int worthIfHeated(int heating) {
        return now.coop.worthOf(now.coop.hatchingIfHeated(heating), SETS_OF_HOUSES - 1);
    }

    private static boolean isFactFor(int what, int v) {
        switch (what) {
            case NEED: return isWithin(v, 1, MOST_WARMTH);
            case WARMTH: return isWithin(v, 0, MOST_WARMTH);
            case WORTH: return isWithin(v, 0, MOST_WORTH);
            case HOUSE: return isWithin(v, 0, HOUSES - 1);
            default: return false;
        }
    }

    private static boolean isHouseSign(int sign) {
        return isWithin(sign, 'A', 'F');
    }

    private static boolean isWithin(int v, int least, int most) {
        return v >= least && v <= most;
    }

    private static int bit(int i) {
        return 1 << i;
    }

    private static boolean hasBit(int bits, int i) {
        return ((bits >> i) & 1) != 0;
    }

    private static int at(int[] row, int i) {
        return row != null && i >= 0 && i < row.length ? row[i] : 0;
    }

    private static void put(int[] row, int i, int v) {
        if (row != null && i >= 0 && i < row.length) row[i] = v;
    }

    private static void putAll(int[] row, int v) {
        for (int i = 0; row != null && i < row.length; i++) row[i] = v;
    }

    private static void copyRow(int[] from, int[] to) {
        if (from == null || to == null) return;
        for (int i = 0; i < from.length && i < to.length; i++) to[i] = from[i];
    }

    private static long lowest(long upper, long lower, int part) {
        long common = commonDivisor(upper, lower);
        if (common == 0) return 0;
        return (part == 0 ? upper : lower) / common;
    }

    private static long commonDivisor(long a, long b) {
        // Euclid's steps on longs are fewer than a hundred.
        for (int step = 0; step < 1000 && b != 0; step++) {
            long rest = a % b;
            a = b;
            b = rest;
        }
        return a;
    }

    /** All but the PAD: what an IMAGE keeps. */
    private static final class Scene {
        private final Coop coop = new Coop();
        private final Hints hints = new Hints();
        private boolean isKept;

        private void copyFrom(Scene other) {
            coop.copyFrom(other.coop);
            hints.copyFrom(other.hints);
        }
    }

    /** The EGGS, their ORDER and the STOVES. */
    private static final class Coop {
        private int count;
        private int stoves;
        private final int[] row = new int[MOST_EGGS];
        private final int[] facts = new int[MOST_EGGS * FACTS];

        private void startWith(int n) {
            count = Math.max(0, Math.min(n, MOST_EGGS));
            stoves = 0;
            for (int egg = 0; egg < MOST_EGGS; egg++) {
                put(row, egg, egg);
                setFact(egg, NEED, 3);
                setFact(egg, WARMTH, 0);
                setFact(egg, WORTH, 1);
                setFact(egg, HOUSE, egg % HOUSES);
                setFact(egg, KIND, WHOLE);
            }
        }

        private void copyFrom(Coop other) {
            count = other.count;
            stoves = other.stoves;
            copyRow(other.row, row);
            copyRow(other.facts, facts);
        }

        private boolean has(int egg) {
            return egg >= 0 && egg < count;
        }

        private int fact(int egg, int what) {
            return at(facts, egg * FACTS + what);
        }

        private void setFact(int egg, int what, int v) {
            put(facts, egg * FACTS + what, v);
        }

        /** As of behind(): 0 WARMTH, 1 HOUSE, 2 whole, hatched, eaten. */
        private int condition(int egg, int what) {
            if (what == 0) return fact(egg, WARMTH);
            return fact(egg, what == 1 ? HOUSE : KIND);
        }

        private boolean isWhole(int egg) {
            return at(facts, egg * FACTS + KIND) == WHOLE;
        }

        private boolean isWarmEnough(int egg) {
            return at(facts, egg * FACTS + WARMTH) >= at(facts, egg * FACTS + NEED);
        }

        private int countWhole() {
            int whole = 0;
            for (int egg = 0; egg < count; egg++) {
                if (isWhole(egg)) whole++;
            }
            return whole;
        }

        private boolean areAllWhole() {
            return countWhole() == count;
        }

        private void turnStove(int house) {
            stoves ^= bit(house);
        }

        /** An HOUR; the EGGS that hatch in it, as bits. */
        private int passHour() {
            warm();
            int bits = hatchingIfHeated(0);
            for (int egg = 0; egg < count; egg++) {
                if (hasBit(bits, egg)) setFact(egg, KIND, HATCHED);
            }
            return bits;
        }

        private void warm() {
            for (int egg = 0; egg < count; egg++) {
                int warmth = fact(egg, WARMTH);
                if (isWhole(egg) && hasBit(stoves, fact(egg, HOUSE)) && warmth < MOST_WARMTH) {
                    setFact(egg, WARMTH, warmth + 1);
                }
            }
        }

        /** The EGGS that hatch, as bits, if all in the HOUSES of a set are warmed as they need. */
        private int hatchingIfHeated(int heating) {
            int bits = 0;
            for (int place = 0; place < count; place++) {
                int egg = at(row, place);
                int kind = fact(egg, KIND);
                if (kind == HATCHED) continue;
                boolean isReady = isWarmEnough(egg) || hasBit(heating, fact(egg, HOUSE));
                if (kind == EATEN || !isReady) return bits;
                bits |= bit(egg);
            }
            return bits;
        }

        private int worthOf(int someEggs, int someHouses) {
            int worth = 0;
            for (int egg = 0; egg < count; egg++) {
                if (hasBit(someEggs, egg) && hasBit(someHouses, fact(egg, HOUSE))) worth += fact(egg, WORTH);
            }
            return worth;
        }

        /** The place of the first EGG that is not hatched; behind all places if there is none. */
        private int stopPlace() {
            for (int place = 0; place < count; place++) {
                if (fact(at(row, place), KIND) != HATCHED) return place;
            }
            return count;
        }

        private int warmBehind(int stopPlace) {
            int bits = 0;
            for (int place = stopPlace + 1; place < count; place++) {
                int egg = at(row, place);
                if (isWhole(egg) && isWarmEnough(egg)) bits |= bit(egg);
            }
            return bits;
        }

        private int eatenAheadOfWhole() {
            int bits = 0;
            boolean isWholeBehind = false;
            for (int place = count - 1; place >= 0; place--) {
                int egg = at(row, place);
                if (isWhole(egg)) isWholeBehind = true;
                else if (isWholeBehind && fact(egg, KIND) == EATEN) bits |= bit(egg);
            }
            return bits;
        }

        private int countWholeAheadOfEaten() {
            int whole = 0;
            for (int place = 0; place < count; place++) {
                int egg = at(row, place);
                if (fact(egg, KIND) == EATEN) return whole;
                if (isWhole(egg)) whole++;
            }
            return whole;
        }

        private int housesOfWhole() {
            int bits = 0;
            for (int egg = 0; egg < count; egg++) {
                if (isWhole(egg)) bits |= bit(fact(egg, HOUSE));
            }
            return bits;
        }

        /** The HOURS till all whole EGGS of a HOUSE are warm enough. */
        private int hoursToHeat(int house) {
            int hours = 0;
            for (int egg = 0; egg < count; egg++) {
                if (!isWhole(egg) || fact(egg, HOUSE) != house) continue;
                hours = Math.max(hours, fact(egg, NEED) - fact(egg, WARMTH));
            }
            return hours;
        }
    }

    /** CLUES and SIGHTS. */
    private static final class Hints {
        private int clueCount;
        private int sightCount;
        private final int[] clueKinds = new int[MOST_CLUES];
        private final int[] clueEggs = new int[MOST_CLUES];
        private final int[] clueOthers = new int[MOST_CLUES];
        private final int[] sightEggs = new int[MOST_SIGHTS];
        private final int[] sightHours = new int[MOST_SIGHTS];

        private void copyFrom(Hints other) {
            clueCount = other.clueCount;
            sightCount = other.sightCount;
            copyRow(other.clueKinds, clueKinds);
            copyRow(other.clueEggs, clueEggs);
            copyRow(other.clueOthers, clueOthers);
            copyRow(other.sightEggs, sightEggs);
            copyRow(other.sightHours, sightHours);
        }

        private void addClue(int kind, int egg, int other) {
            if (clueCount >= MOST_CLUES) return;
            put(clueKinds, clueCount, kind);
            put(clueEggs, clueCount, egg);
            put(clueOthers, clueCount, other);
            clueCount++;
        }

        private void addSight(int egg, int hour) {
            if (sightCount >= MOST_SIGHTS) return;
            put(sightEggs, sightCount, egg);
            put(sightHours, sightCount, hour);
            sightCount++;
        }
    }

    /** The signs that were said. */
    private static final class Pad {
        private int count;
        private final int[] signs = new int[MOST_SIGNS];

        private void add(int sign) {
            if (count >= MOST_SIGNS) return;
            put(signs, count, sign);
            count++;
        }

        private int sign(int i) {
            return at(signs, i);
        }

        private boolean isDigitOfEgg(int i, int n) {
            return isWithin(sign(i), '0', '0' + n - 1);
        }

        private int orderFault(int n) {
            int laid = 0;
            for (int i = 0; i < count; i++) {
                if (i >= n || !isDigitOfEgg(i, n) || hasBit(laid, sign(i) - '0')) return i;
                laid |= bit(sign(i) - '0');
            }
            return count < n ? count : NONE;
        }

        private int weekFault(int n) {
            boolean isEggNamed = false;
            for (int i = 0; i < count; i++) {
                if (isEggNamed) {
                    if (!isHouseSign(sign(i)) && !eatsOrMendsAt(i)) return i;
                    isEggNamed = false;
                } else if (isDigitOfEgg(i, n)) {
                    isEggNamed = true;
                } else if (sign(i) != '.' && !isHouseSign(sign(i))) {
                    return i;
                }
            }
            return isEggNamed ? count : NONE;
        }

        private boolean eatsOrMendsAt(int i) {
            return sign(i) == '!' || sign(i) == '+';
        }

        private boolean eatsOrMends() {
            for (int i = 0; i < count; i++) {
                if (eatsOrMendsAt(i)) return true;
            }
            return false;
        }
    }

    /** The WEEK on a PAD, tried on a coop of its own, so that nothing is so in fact. */
    private static final class Week {
        private final Coop coop = new Coop();
        private final int[] hatchHours = new int[MOST_EGGS];
        /** ACTS that could be: till the first one that can not. */
        private int acts;
        private int hours;
        private int hatches;
        /** Why the ACT behind these can not be; 0: all can. */
        private int why;

        /** What the WEEK comes to; the refusal if it has a FAULT or some ACT can not be. */
        private int run(Pad pad, Coop start) {
            if (pad.weekFault(start.count) != NONE) return NO;
            startFrom(start);
            for (int i = 0; i < pad.count && why == 0; i++) {
                int sign = pad.sign(i);
                if (sign == '.') spendHour();
                else if (isHouseSign(sign)) coop.turnStove(sign - 'A');
                else why = handle(sign - '0', pad.sign(++i));
                if (why == 0) acts++;
            }
            return why == 0 ? FINE : STATE;
        }

        private void startFrom(Coop start) {
            coop.copyFrom(start);
            acts = 0;
            hours = 0;
            hatches = 0;
            why = 0;
            for (int egg = 0; egg < MOST_EGGS; egg++) {
                put(hatchHours, egg, coop.fact(egg, KIND) == HATCHED ? 0 : NONE);
            }
        }

        private void spendHour() {
            hours++;
            int bits = coop.passHour();
            hatches += Integer.bitCount(bits);
            for (int egg = 0; egg < MOST_EGGS; egg++) {
                if (hasBit(bits, egg)) put(hatchHours, egg, hours);
            }
        }

        /** An EGG is carried, eaten or mended; the reason if it can not be, or 0. */
        private int handle(int egg, int sign) {
            int kind = coop.fact(egg, KIND);
            if (kind == HATCHED) return IS_HATCHED;
            if (kind == EATEN && sign != '+') return IS_EATEN;
            if (kind == WHOLE && sign == '+') return IS_WHOLE;
            if (sign == '+') {
                coop.setFact(egg, KIND, HATCHED);
                put(hatchHours, egg, 0);
            } else if (sign == '!') {
                coop.setFact(egg, KIND, EATEN);
            } else {
                coop.setFact(egg, HOUSE, sign - 'A');
            }
            return 0;
        }
    }

    /**
     * All orders that fit. While nothing is eaten nor mended, how warm an EGG gets till it hatches
     * is the same in every order: it hatches in the HOUR in which the last one of it and all
     * ahead of it gets warm enough.
     */
    private static final class Fitting {
        private int count;
        private int total;
        private final int[] row = new int[MOST_EGGS];
        private final int[] first = new int[MOST_EGGS];
        private final int[] ordersByEggAndPlace = new int[MOST_EGGS * MOST_EGGS];
        /** Of each EGG: those that are ahead of it in some order that fits. */
        private final int[] aheadInSome = new int[MOST_EGGS];
        private final int[] allowedPlaces = new int[MOST_EGGS];
        private final int[] mustBeAhead = new int[MOST_EGGS];
        private final int[] mustBeRightAhead = new int[MOST_EGGS];
        private final int[] warmHours = new int[MOST_EGGS];
        /** The HOURS that have gone by when the EGG is carried last; -1: it is not carried. */
        private final int[] carriedAfter = new int[MOST_EGGS];
        private final int[] seenHours = new int[MOST_EGGS];
        private final Coop warming = new Coop();

        private void begin(int n) {
            count = Math.max(0, Math.min(n, MOST_EGGS));
            total = 0;
            putAll(ordersByEggAndPlace, 0);
            putAll(aheadInSome, 0);
            putAll(allowedPlaces, bit(MOST_EGGS) - 1);
            putAll(mustBeAhead, 0);
            putAll(mustBeRightAhead, 0);
            putAll(warmHours, 0);
            putAll(carriedAfter, -1);
            putAll(seenHours, ANY_HOUR);
        }

        private void takeClues(Hints hints) {
            for (int i = 0; i < hints.clueCount; i++) {
                takeClue(at(hints.clueKinds, i), at(hints.clueEggs, i), at(hints.clueOthers, i));
            }
        }

        private void takeClue(int kind, int egg, int other) {
            switch (kind) {
                case AHEAD:
                    put(mustBeAhead, other, at(mustBeAhead, other) | bit(egg));
                    break;
                case RIGHT_AHEAD:
                    put(mustBeRightAhead, other, at(mustBeRightAhead, other) | bit(egg));
                    break;
                case AT:
                    put(allowedPlaces, egg, at(allowedPlaces, egg) & bit(other));
                    break;
                default:
                    put(allowedPlaces, egg, at(allowedPlaces, egg) & ~bit(other));
                    break;
            }
        }

        private void takeWeek(Pad pad, Coop start) {
            warming.copyFrom(start);
            putAll(warmHours, NEVER);
            int hours = 0;
            for (int i = 0; i < pad.count; i++) {
                int sign = pad.sign(i);
                if (sign == '.') {
                    hours++;
                    warming.warm();
                    noteWarm(hours);
                } else if (isHouseSign(sign)) {
                    warming.turnStove(sign - 'A');
                } else {
                    warming.setFact(sign - '0', HOUSE, pad.sign(++i) - 'A');
                    put(carriedAfter, sign - '0', hours);
                }
            }
        }

        private void noteWarm(int hour) {
            for (int egg = 0; egg < count; egg++) {
                if (at(warmHours, egg) == NEVER && warming.isWarmEnough(egg)) put(warmHours, egg, hour);
            }
        }

        private void takeSights(Hints hints) {
            for (int i = 0; i < hints.sightCount; i++) {
                int egg = at(hints.sightEggs, i);
                int told = at(hints.sightHours, i);
                int hour = told == 0 ? NEVER : told;
                int before = at(seenHours, egg);
                put(seenHours, egg, before == ANY_HOUR || before == hour ? hour : NO_HOUR_FITS);
            }
        }

        private void search() {
            total = lay(this, 0, 0, 0);
        }

        /** How many orders fit that begin with the EGGS laid, the last of which hatches in an HOUR. */
        private static int lay(Fitting f, int place, int laid, int hour) {
            if (place >= f.count || place >= MOST_EGGS) {
                f.keepIfFirst();
                return 1;
            }
            int orders = 0;
            for (int egg = 0; egg < f.count; egg++) {
                if (hasBit(laid, egg) || !f.canBeLaid(egg, place, laid)) continue;
                int hatchHour = Math.max(hour, at(f.warmHours, egg));
                if (!f.canHatchIn(egg, hatchHour)) continue;
                put(f.row, place, egg);
                int begunSo = lay(f, place + 1, laid | bit(egg), hatchHour);
                if (begunSo > 0) f.addOrders(egg, place, laid, begunSo);
                orders += begunSo;
            }
            return orders;
        }

        private boolean canBeLaid(int egg, int place, int laid) {
            if (!hasBit(at(allowedPlaces, egg), place) || (at(mustBeAhead, egg) & ~laid) != 0) return false;
            int right = at(mustBeRightAhead, egg);
            return right == 0 || (place > 0 && right == bit(at(row, place - 1)));
        }

        private boolean canHatchIn(int egg, int hour) {
            int seen = at(seenHours, egg);
            return hour > at(carriedAfter, egg) && (seen == ANY_HOUR || seen == hour);
        }

        /** Orders are found by digits, so the first one found is the first. */
        private void keepIfFirst() {
            if (total == 0) copyRow(row, first);
            total = 1;
        }

        private void addOrders(int egg, int place, int laid, int orders) {
            int i = egg * MOST_EGGS + place;
            put(ordersByEggAndPlace, i, at(ordersByEggAndPlace, i) + orders);
            put(aheadInSome, egg, at(aheadInSome, egg) | laid);
        }

        private int ordersWith(int egg, int place) {
            return at(ordersByEggAndPlace, egg * MOST_EGGS + place);
        }

        private int placesOf(int egg) {
            int bits = 0;
            for (int place = 0; place < count; place++) {
                if (ordersWith(egg, place) > 0) bits |= bit(place);
            }
            return bits;
        }

        private int eggsAtFirstPlace() {
            int bits = 0;
            for (int egg = 0; egg < count; egg++) {
                if (ordersWith(egg, 0) > 0) bits |= bit(egg);
            }
            return bits;
        }

        /** How many orders are left at the most when it is told at which place the EGG is. */
        private int mostLeft(int egg) {
            int most = 0;
            for (int place = 0; place < count; place++) most = Math.max(most, ordersWith(egg, place));
            return most;
        }
    }
}
