import java.util.ArrayList;
import java.util.List;

/**
 * Each sentence of ../shared/DOC.md that names an edge (too small, too large, empty, full, a wrap-around, a refused
 * call) by a test of its own: its words stand in sentence(..), ahead of the calls that would show it broken.
 */
public final class BoundaryTests {
    private static final int UNKNOWN = -1, OUTSIDE = -2, STATE = -3, FULL = -4, NO = -5, NONE = -6;
    private static final long GONE = -1000000000000000000L;
    private static final int LEAST = Integer.MIN_VALUE, MOST = Integer.MAX_VALUE;
    private static final int A = 0, B = 1, C = 2, D = 3, E = 4, F = 5;
    private static final int NEED = 0, WARMTH = 1, WORTH = 2, HOUSE = 3;
    private static final int AHEAD = 0, RIGHT_AHEAD = 1, AT = 2, NOT_AT = 3;
    private static final int MOST_CALLS = 512;

    private static int wrong = 0;
    private static int sentences = 0;
    private static String words = "";

    public static void main(String[] args) {
        refusals();
        termsOfEggs();
        termsOfHours();
        termsOfPad();
        termsOfActs();
        callsOfEggs();
        callsOfWeeks();
        callsOfClues();
        callsOfChains();
        callsOfHouses();
        callsOfChance();
        callsOfImages();
        System.out.println(wrong == 0 ? sentences + " sentences hold" : wrong + " answers are not as due");
        if (wrong != 0) System.exit(1);
    }

    // ---- what the tests are made of

    private interface Call {
        long of(EggOrder x);
    }

    private interface Beginning {
        void of(EggOrder x);
    }

    private static void sentence(String told) {
        words = told;
        sentences++;
    }

    private static void due(String call, long got, long want) {
        if (got == want) return;
        wrong++;
        System.out.println("\"" + words + "\": " + call + " answered " + got + ", due is " + want);
    }

    private static void dueFraction(String call, long upper, long lower, long wantUpper, long wantLower) {
        due(call + ", upper", upper, wantUpper);
        due(call + ", lower", lower, wantLower);
    }

    private static EggOrder coop(int n) {
        EggOrder x = new EggOrder();
        x.eggs(n);
        return x;
    }

    private static EggOrder begun(Beginning beginning) {
        EggOrder x = new EggOrder();
        beginning.of(x);
        return x;
    }

    private static void say(EggOrder x, String text) {
        for (int i = 0; i < text.length(); i++) x.say(text.charAt(i));
    }

    private static void sayAnew(EggOrder x, String text) {
        x.wipe();
        say(x, text);
    }

    private static void lay(EggOrder x, String order) {
        sayAnew(x, order);
        x.order();
    }

    private static void act(EggOrder x, String week) {
        sayAnew(x, week);
        x.done();
    }

    private static String times(int count, String text) {
        return text.repeat(count);
    }

    private static long fault(int n, int how, String text) {
        EggOrder x = coop(n);
        say(x, text);
        return x.fault(how);
    }

    private static EggOrder judged(int n, String week) {
        EggOrder x = coop(n);
        say(x, week);
        return x;
    }

    /** Numbers beyond a range, by one and by all. */
    private static int[] beyond(int least, int most) {
        return new int[] {least - 1, most + 1, LEAST, MOST};
    }

    /** All that can be asked of an object, without a change of it. */
    private static void tellAll(EggOrder x, List<Long> all) {
        for (int what = 0; what <= 16; what++) all.add((long) x.told(what));
        for (int egg = 2; egg <= 8; egg++) {
            for (int fact = 0; fact <= 4; fact++) all.add((long) x.told(10 * egg + fact));
        }
        for (int what = 0; what <= 3; what++) all.add((long) x.judge(what));
        for (int egg = 0; egg < 7; egg++) {
            all.add((long) x.hatched(egg));
            all.add((long) x.places(egg));
            all.add((long) x.fits(egg));
        }
        all.add((long) x.fits(-1));
        all.add((long) x.fault(0));
        all.add((long) x.fault(1));
        all.add((long) x.stops(1));
        all.add((long) x.ask(1));
        all.add((long) x.mend(1));
        all.add((long) x.soonest(1));
        all.add((long) x.rests(2, -1));
        all.add(x.shapley(A, 0));
        all.add(x.hope(3, 0, 0));
        all.add((long) x.year(7, 20, 1));
    }

    /** All that an object holds, the signs and both images too; the object is used up. */
    private static List<Long> spent(EggOrder x) {
        List<Long> all = new ArrayList<>();
        tellAll(x, all);
        all.add((long) x.order());
        all.add((long) x.done());
        tellAll(x, all);
        for (int k = 0; k <= 1; k++) {
            all.add((long) x.restore(k));
            tellAll(x, all);
        }
        return all;
    }

    /** The call answers so, and nothing is changed by it. */
    private static void dueUnchanged(String name, Beginning beginning, Call call, long want) {
        EggOrder x = begun(beginning);
        due(name, call.of(x), want);
        if (!spent(x).equals(spent(begun(beginning)))) due(name + ": is all unchanged (1)", 0, 1);
    }

    private static void dueNothingChanged(String name, Beginning beginning, Call call) {
        EggOrder x = begun(beginning);
        call.of(x);
        if (!spent(x).equals(spent(begun(beginning)))) due(name + ": is all unchanged (1)", 0, 1);
    }

    // ---- five EGGS in states of many kinds

    /** Five whole EGGS, CLUES and SIGHTS, two images, a WEEK that can be. */
    private static void rich(EggOrder x) {
        x.eggs(2);
        x.egg(0, NEED, 5);
        x.egg(1, WARMTH, 4);
        x.stove(F, true);
        x.clue(AT, 0, 1);
        x.image(1);
        x.eggs(5);
        lay(x, "40312");
        x.egg(0, NEED, 2);
        x.egg(1, WORTH, 42);
        x.egg(2, HOUSE, A);
        x.egg(3, WARMTH, 2);
        x.stove(D, true);
        x.clue(AHEAD, 4, 3);
        x.clue(NOT_AT, 1, 0);
        x.image(0);
        x.egg(4, NEED, 1);
        x.seen(4, 1);
        x.seen(2, 0);
        say(x, "AE.2C.C");
    }

    private static void faulty(EggOrder x) {
        rich(x);
        say(x, "1");
    }

    /** EGG 4 is hatched, EGG 0 eaten. */
    private static void spoilt(EggOrder x) {
        rich(x);
        act(x, "E.0!");
        say(x, "AE.2C.C");
    }

    private static void spoiltAndFaulty(EggOrder x) {
        spoilt(x);
        say(x, "G");
    }

    /** The WEEK has an ACT that can not be: EGG 4 is hatched. */
    private static void impossible(EggOrder x) {
        rich(x);
        sayAnew(x, "E.4A.");
    }

    private static void full(EggOrder x) {
        rich(x);
        for (int i = 7; i < 60; i++) x.say('.');
        for (int i = 2; i < 12; i++) x.clue(NOT_AT, 3, 0);
        for (int i = 2; i < 7; i++) x.seen(4, 1);
    }

    // ---- the calls that are refused

    private static final List<String> REFUSED_NAMES = new ArrayList<>();
    private static final List<Call> REFUSED_CALLS = new ArrayList<>();
    private static final List<Long> REFUSED_WANTS = new ArrayList<>();

    private static void refused(String name, long want, Call call) {
        REFUSED_NAMES.add(name);
        REFUSED_CALLS.add(call);
        REFUSED_WANTS.add(want);
    }

    /** Of five EGGS. What else is wrong with a call stands behind UNKNOWN. */
    private static void refusedOfEggs() {
        for (int e : new int[] {-1, 5, 6, 7, 32, LEAST, MOST}) {
            refused("egg(" + e + ", 0, 1)", UNKNOWN, x -> x.egg(e, NEED, 1));
            refused("egg(" + e + ", 4, 1)", UNKNOWN, x -> x.egg(e, 4, 1));
            refused("egg(" + e + ", 1, 10)", UNKNOWN, x -> x.egg(e, WARMTH, 10));
            refused("behind(" + e + ", 0)", UNKNOWN, x -> x.behind(e, 0));
            refused("behind(" + e + ", 3)", UNKNOWN, x -> x.behind(e, 3));
            refused("hatched(" + e + ")", UNKNOWN, x -> x.hatched(e));
            refused("state(" + e + ", 0)", UNKNOWN, x -> x.state(e, 0));
            refused("state(" + e + ", -1)", UNKNOWN, x -> x.state(e, -1));
            for (int kind = AHEAD; kind <= NOT_AT; kind++) {
                int k = kind;
                refused("clue(" + k + ", " + e + ", 0)", UNKNOWN, x -> x.clue(k, e, 0));
                refused("clue(" + k + ", " + e + ", 9)", UNKNOWN, x -> x.clue(k, e, 9));
            }
            refused("clue(0, 0, " + e + ")", UNKNOWN, x -> x.clue(AHEAD, 0, e));
            refused("clue(1, 0, " + e + ")", UNKNOWN, x -> x.clue(RIGHT_AHEAD, 0, e));
            refused("seen(" + e + ", 0)", UNKNOWN, x -> x.seen(e, 0));
            refused("seen(" + e + ", 61)", UNKNOWN, x -> x.seen(e, 61));
            refused("places(" + e + ")", UNKNOWN, x -> x.places(e));
            refused("certain(" + e + ", 0)", UNKNOWN, x -> x.certain(e, 0));
            refused("certain(0, " + e + ")", UNKNOWN, x -> x.certain(0, e));
            refused("certain of " + e + " alone", UNKNOWN, x -> x.certain(e, e));
        }
        for (int egg = 0; egg < 5; egg++) {
            int e = egg;
            refused("clue(0), both " + e, UNKNOWN, x -> x.clue(AHEAD, e, e));
            refused("clue(1), both " + e, UNKNOWN, x -> x.clue(RIGHT_AHEAD, e, e));
            refused("certain, both " + e, UNKNOWN, x -> x.certain(e, e));
        }
    }

    private static void refusedOfHouses() {
        for (int house : beyond(A, F)) {
            refused("stove(" + house + ", true)", UNKNOWN, x -> x.stove(house, true));
            refused("stove(" + house + ", false)", UNKNOWN, x -> x.stove(house, false));
            refused("shapley(" + house + ", 0)", GONE + UNKNOWN, x -> x.shapley(house, 0));
            refused("shapley(" + house + ", 2)", GONE + UNKNOWN, x -> x.shapley(house, 2));
        }
    }

    private static void refusedOutsideOfEggs() {
        for (int v : beyond(1, 7)) refused("eggs(" + v + ")", OUTSIDE, x -> x.eggs(v));
        for (int v : beyond(0, 3)) refused("egg(1, " + v + ", 1)", OUTSIDE, x -> x.egg(1, v, 1));
        for (int v : beyond(1, 9)) refused("NEED " + v, OUTSIDE, x -> x.egg(1, NEED, v));
        // EGG 0 is eaten in a spoilt coop: OUTSIDE stands ahead of STATE.
        for (int v : beyond(0, 9)) refused("WARMTH " + v, OUTSIDE, x -> x.egg(0, WARMTH, v));
        for (int v : beyond(0, 99)) refused("WORTH " + v, OUTSIDE, x -> x.egg(1, WORTH, v));
        for (int v : beyond(A, F)) refused("HOUSE " + v, OUTSIDE, x -> x.egg(1, HOUSE, v));
        for (int v : beyond(33, 126)) refused("say(" + v + ")", OUTSIDE, x -> x.say(v));
        for (int v : new int[] {0, 10, 302, -'.'}) refused("say(" + v + ")", OUTSIDE, x -> x.say(v));
        for (int v : beyond(0, 1)) refused("fault(" + v + ")", OUTSIDE, x -> x.fault(v));
    }

    private static void refusedOutsideOfWeeks() {
        for (int v : beyond(0, 3)) refused("judge(" + v + ")", OUTSIDE, x -> x.judge(v));
        for (int v : beyond(0, 2)) {
            refused("behind(0, " + v + ")", OUTSIDE, x -> x.behind(0, v));
            refused("state(0, " + v + ")", OUTSIDE, x -> x.state(0, v));
        }
        for (int v : beyond(0, 1)) refused("stops(" + v + ")", OUTSIDE, x -> x.stops(v));
    }

    private static void refusedOutsideOfClues() {
        for (int v : beyond(AHEAD, NOT_AT)) {
            refused("clue(" + v + ", 0, 1)", OUTSIDE, x -> x.clue(v, 0, 1));
            refused("kind " + v + " ahead of the EGG", OUTSIDE, x -> x.clue(v, 5, 1));
            refused("kind " + v + " ahead of both are one", OUTSIDE, x -> x.clue(v, 1, 1));
        }
        for (int v : beyond(0, 4)) {
            refused("clue(2, 0, " + v + ")", OUTSIDE, x -> x.clue(AT, 0, v));
            refused("clue(3, 0, " + v + ")", OUTSIDE, x -> x.clue(NOT_AT, 0, v));
        }
        for (int v : beyond(0, 60)) refused("seen(0, " + v + ")", OUTSIDE, x -> x.seen(0, v));
        for (int v : beyond(0, 1)) {
            refused("forget(" + v + ")", OUTSIDE, x -> x.forget(v));
            refused("ask(" + v + ")", OUTSIDE, x -> x.ask(v));
        }
    }

    private static void refusedOutsideOfHouses() {
        for (int v : beyond(0, 1)) {
            refused("mend(" + v + ")", OUTSIDE, x -> x.mend(v));
            refused("shapley(0, " + v + ")", GONE + OUTSIDE, x -> x.shapley(0, v));
            refused("hope(1, " + v + ", 0)", GONE + OUTSIDE, x -> x.hope(1, v, 0));
            refused("hope(1, 0, " + v + ")", GONE + OUTSIDE, x -> x.hope(1, 0, v));
            refused("image(" + v + ")", OUTSIDE, x -> x.image(v));
            refused("restore(" + v + ")", OUTSIDE, x -> x.restore(v));
        }
        for (int v : beyond(1, 6)) refused("soonest(" + v + ")", OUTSIDE, x -> x.soonest(v));
        for (int v : beyond(0, 99)) {
            for (int i : new int[] {-2, -1, 0, 1000}) {
                refused("rests(" + v + ", " + i + ")", OUTSIDE, x -> x.rests(v, i));
            }
        }
        for (int v : beyond(0, 10)) refused("hope(" + v + ", 0, 0)", GONE + OUTSIDE, x -> x.hope(v, 0, 0));
        for (int v : beyond(0, 9999)) refused("year(" + v + ", 1, 0)", OUTSIDE, x -> x.year(v, 1, 0));
        for (int v : beyond(1, 99)) refused("year(0, " + v + ", 0)", OUTSIDE, x -> x.year(0, v, 0));
        for (int v : beyond(0, 2)) refused("year(0, 1, " + v + ")", OUTSIDE, x -> x.year(0, 1, v));
        for (int v : new int[] {-1, 5, 9, 15, 19, 25, 29, 35, 65, 69, 70, 80, 100, LEAST, MOST}) {
            refused("told(" + v + ")", OUTSIDE, x -> x.told(v));
        }
    }

    private static void refusals() {
        refusedOfEggs();
        refusedOfHouses();
        refusedOutsideOfEggs();
        refusedOutsideOfWeeks();
        refusedOutsideOfClues();
        refusedOutsideOfHouses();
        Beginning[] beginnings = {BoundaryTests::rich, BoundaryTests::faulty, BoundaryTests::spoilt,
            BoundaryTests::spoiltAndFaulty, BoundaryTests::impossible, BoundaryTests::full};
        String[] names = {"", " of a faulty WEEK", " of a spoilt coop", " of a spoilt coop, a faulty WEEK",
            " of an impossible WEEK", " when all is full"};
        sentence("the first of these that fits: UNKNOWN, OUTSIDE; they change nothing");
        for (int b = 0; b < beginnings.length; b++) {
            for (int i = 0; i < REFUSED_CALLS.size(); i++) {
                String name = REFUSED_NAMES.get(i) + names[b];
                dueUnchanged(name, beginnings[b], REFUSED_CALLS.get(i), REFUSED_WANTS.get(i));
            }
        }
        sentence("the tests keep to the calls that are promised");
        due("calls of the longest", MOST_CALLS > 130 + callsToSpend() ? 1 : 0, 1);
        noAheadOfState();
        stateOfWeeks();
        stateOfEggs();
        fullOnes();
        askingChangesNothing();
        fractions();
    }

    private static int callsToSpend() {
        List<Long> once = new ArrayList<>();
        tellAll(new EggOrder(), once);
        return 4 * once.size() + 4;
    }

    private static void noAheadOfState() {
        sentence("NO: there is a FAULT, ahead of STATE");
        Beginning[] beginnings = {BoundaryTests::faulty, BoundaryTests::spoiltAndFaulty};
        for (Beginning b : beginnings) {
            dueUnchanged("order()", b, x -> x.order(), NO);
            for (int what = 0; what <= 3; what++) {
                int w = what;
                dueUnchanged("judge(" + w + ")", b, x -> x.judge(w), NO);
            }
            dueUnchanged("behind(0, 0)", b, x -> x.behind(0, 0), NO);
            dueUnchanged("hatched(0)", b, x -> x.hatched(0), NO);
            dueUnchanged("stops(0)", b, x -> x.stops(0), NO);
            dueUnchanged("stops(1)", b, x -> x.stops(1), NO);
            dueUnchanged("done()", b, x -> x.done(), NO);
            dueUnchanged("fits(-1)", b, x -> x.fits(-1), NO);
            dueUnchanged("fits(0)", b, x -> x.fits(0), NO);
            dueUnchanged("fits(5)", b, x -> x.fits(5), NO);
            dueUnchanged("places(0)", b, x -> x.places(0), NO);
            dueUnchanged("firsts()", b, x -> x.firsts(), NO);
            dueUnchanged("certain(0, 1)", b, x -> x.certain(0, 1), NO);
            dueUnchanged("ask(0)", b, x -> x.ask(0), NO);
            dueUnchanged("ask(1)", b, x -> x.ask(1), NO);
        }
        sentence("NO: ! or + while there are SIGHTS, ahead of STATE");
        for (String week : new String[] {"1!", ".1!1+", "0+"}) {
            Beginning b = x -> {
                spoilt(x);
                sayAnew(x, week);
            };
            dueUnchanged("fits(-1), " + week, b, x -> x.fits(-1), NO);
            dueUnchanged("places(0), " + week, b, x -> x.places(0), NO);
            dueUnchanged("firsts(), " + week, b, x -> x.firsts(), NO);
            dueUnchanged("certain(0, 1), " + week, b, x -> x.certain(0, 1), NO);
            dueUnchanged("ask(1), " + week, b, x -> x.ask(1), NO);
        }
    }

    private static void stateOfWeeks() {
        sentence("STATE (2, 3): some ACT can not be");
        dueUnchanged("judge(2)", BoundaryTests::impossible, x -> x.judge(2), STATE);
        dueUnchanged("judge(3)", BoundaryTests::impossible, x -> x.judge(3), STATE);
        dueUnchanged("judge(0)", BoundaryTests::impossible, x -> x.judge(0), 2);
        dueUnchanged("judge(1)", BoundaryTests::impossible, x -> x.judge(1), 1);
        sentence("behind, hatched, stops, done: STATE, as of judge(2)");
        dueUnchanged("behind(0, 0)", BoundaryTests::impossible, x -> x.behind(0, 0), STATE);
        dueUnchanged("behind(0, 1)", BoundaryTests::impossible, x -> x.behind(0, 1), STATE);
        dueUnchanged("behind(0, 2)", BoundaryTests::impossible, x -> x.behind(0, 2), STATE);
        dueUnchanged("hatched(4)", BoundaryTests::impossible, x -> x.hatched(4), STATE);
        dueUnchanged("stops(0)", BoundaryTests::impossible, x -> x.stops(0), STATE);
        dueUnchanged("stops(1)", BoundaryTests::impossible, x -> x.stops(1), STATE);
        dueUnchanged("done()", BoundaryTests::impossible, x -> x.done(), STATE);
    }

    private static void stateOfEggs() {
        sentence("order(): STATE: some EGG is not whole");
        Beginning wellSaid = x -> {
            spoilt(x);
            sayAnew(x, "01234");
        };
        dueUnchanged("order()", wellSaid, x -> x.order(), STATE);
        sentence("egg(): STATE: it is not whole (1)");
        for (int v : new int[] {0, 1, 9}) {
            dueUnchanged("WARMTH of an eaten one", BoundaryTests::spoilt, x -> x.egg(0, WARMTH, v), STATE);
            dueUnchanged("WARMTH of a hatched one", BoundaryTests::spoilt, x -> x.egg(4, WARMTH, v), STATE);
        }
        sentence("STATE (while there are SIGHTS): some EGG is not whole");
        dueUnchanged("fits(-1)", BoundaryTests::spoilt, x -> x.fits(-1), STATE);
        dueUnchanged("fits(0)", BoundaryTests::spoilt, x -> x.fits(0), STATE);
        dueUnchanged("fits(-2)", BoundaryTests::spoilt, x -> x.fits(-2), STATE);
        dueUnchanged("places(0)", BoundaryTests::spoilt, x -> x.places(0), STATE);
        dueUnchanged("firsts()", BoundaryTests::spoilt, x -> x.firsts(), STATE);
        dueUnchanged("certain(0, 1)", BoundaryTests::spoilt, x -> x.certain(0, 1), STATE);
        dueUnchanged("ask(0)", BoundaryTests::spoilt, x -> x.ask(0), STATE);
        dueUnchanged("ask(1)", BoundaryTests::spoilt, x -> x.ask(1), STATE);
        sentence("restore(): STATE: it was not");
        Beginning one = x -> x.image(1);
        dueUnchanged("restore(0)", one, x -> x.restore(0), STATE);
        dueUnchanged("restore(1) of a new one", x -> { }, x -> x.restore(1), STATE);
        dueUnchanged("restore(0) of a new one", x -> x.image(2), x -> x.restore(0), STATE);
    }

    private static void fullOnes() {
        sentence("FULL: they change nothing");
        dueUnchanged("say", BoundaryTests::full, x -> x.say('.'), FULL);
        dueUnchanged("say 33", BoundaryTests::full, x -> x.say(33), FULL);
        dueUnchanged("say 126", BoundaryTests::full, x -> x.say(126), FULL);
        for (int kind = AHEAD; kind <= NOT_AT; kind++) {
            int k = kind;
            dueUnchanged("clue " + k, BoundaryTests::full, x -> x.clue(k, 0, 1), FULL);
        }
        dueUnchanged("seen", BoundaryTests::full, x -> x.seen(0, 1), FULL);
        dueUnchanged("seen, 0", BoundaryTests::full, x -> x.seen(0, 0), FULL);
    }

    private static void askingChangesNothing() {
        sentence("what is only asked changes nothing");
        Beginning[] beginnings = {BoundaryTests::rich, BoundaryTests::spoilt};
        for (Beginning b : beginnings) {
            dueNothingChanged("judge", b, x -> x.judge(0) + x.judge(1) + x.judge(2) + x.judge(3));
            dueNothingChanged("fault", b, x -> x.fault(0) + x.fault(1));
            dueNothingChanged("behind", b, x -> x.behind(0, 0) + x.behind(1, 1) + x.behind(4, 2));
            dueNothingChanged("hatched", b, x -> x.hatched(0) + x.hatched(4));
            dueNothingChanged("stops", b, x -> x.stops(0) + x.stops(1));
            dueNothingChanged("state", b, x -> x.state(0, 0) + x.state(1, 1) + x.state(4, 2));
            dueNothingChanged("fits", b, x -> x.fits(-1) + x.fits(0) + x.fits(9));
            dueNothingChanged("places", b, x -> x.places(0));
            dueNothingChanged("firsts", b, x -> x.firsts());
            dueNothingChanged("certain", b, x -> x.certain(4, 3));
            dueNothingChanged("ask", b, x -> x.ask(0) + x.ask(1));
            dueNothingChanged("mend", b, x -> x.mend(0) + x.mend(1));
            dueNothingChanged("soonest", b, x -> x.soonest(1) + x.soonest(6));
            dueNothingChanged("rests", b, x -> x.rests(0, -1) + x.rests(1, 0));
            dueNothingChanged("shapley", b, x -> x.shapley(A, 0) + x.shapley(F, 1));
            dueNothingChanged("hope", b, x -> x.hope(10, 0, 0) + x.hope(3, 1, 1));
            dueNothingChanged("year: nothing is DONE in fact", b, x -> x.year(9999, 99, 0));
            dueNothingChanged("told", b, x -> x.told(0) + x.told(10) + x.told(24));
        }
    }

    private static void fractions() {
        sentence("fractions are told in lowest terms by part: 0 the upper, 1 the lower number");
        EggOrder x = coop(1);
        dueFraction("a whole number", x.shapley(A, 0), x.shapley(A, 1), 1, 1);
        dueFraction("nothing", x.shapley(F, 0), x.shapley(F, 1), 0, 1);
        dueFraction("2 of 10", x.hope(8, 0, 0), x.hope(8, 0, 1), 1, 5);
        dueFraction("nothing is left", x.hope(10, 1, 0), x.hope(10, 1, 1), 0, 1);
        sentence("refused with GONE and the refusal");
        due("UNKNOWN", x.shapley(6, 0), -1000000000000000001L);
        due("OUTSIDE", x.hope(11, 0, 0), -1000000000000000002L);
        sentence("a sign that is said changes what fault() tells");
        due("ahead", x.fault(1), NONE);
        x.say('~');
        due("behind", x.fault(1), 0);
    }

    // ---- 1 eggs, hours, the pad, acts

    private static void termsOfEggs() {
        sentence("EGGS: n 1 to 7; 4 at first");
        EggOrder x = new EggOrder();
        due("told(1) of a new one", x.told(1), 4);
        due("eggs(1)", x.eggs(1), 4);
        due("EGG 0 of one", x.state(0, 2), 0);
        due("EGG 1 of one", x.state(1, 2), UNKNOWN);
        due("eggs(0)", x.eggs(0), OUTSIDE);
        due("eggs(7)", x.eggs(7), 1);
        due("EGG 6 of seven", x.state(6, 2), 0);
        due("EGG 7 of seven", x.state(7, 2), UNKNOWN);
        due("eggs(8)", x.eggs(8), OUTSIDE);
        due("told(1)", x.told(1), 7);
        sentence("an EGG that was, and is again, is as at first");
        x.egg(6, NEED, 9);
        x.egg(6, WARMTH, 8);
        x.egg(6, WORTH, 0);
        x.egg(6, HOUSE, E);
        act(x, "6!");
        x.eggs(6);
        x.eggs(7);
        due("NEED", x.told(80), 3);
        due("WARMTH", x.told(81), 0);
        due("WORTH", x.told(82), 1);
        due("HOUSE", x.told(83), A);
        due("whole", x.told(84), 0);
        sentence("NEED 3, WARMTH 0, WORTH 1, whole at first");
        for (int egg = 0; egg < 7; egg++) {
            due("NEED of " + egg, x.egg(egg, NEED, 3), 3);
            due("WARMTH of " + egg, x.egg(egg, WARMTH, 0), 0);
            due("WORTH of " + egg, x.egg(egg, WORTH, 1), 1);
            due("whole " + egg, x.state(egg, 2), 0);
        }
        sentence("EGG e in HOUSE e, EGG 6 in HOUSE 0 at first");
        for (int egg = 0; egg < 6; egg++) due("HOUSE of " + egg, x.state(egg, 1), egg);
        due("HOUSE of 6", x.state(6, 1), A);
        say(x, "A.");
        due("EGG 6 by STOVE A", x.behind(6, 0), 1);
        sentence("HOUSES have their STOVE off at first");
        due("told(2)", x.told(2), 0);
        sentence("the ORDER is 0, 1, 2 .. at first");
        for (int place = 0; place < 7; place++) due("place " + place, x.told(10 + place), place);
    }

    private static void termsOfHours() {
        sentence("an HOUR: each whole EGG in a HOUSE whose STOVE is on is 1 warmer");
        EggOrder x = judged(7, "AC.");
        int[] warmths = {1, 0, 1, 0, 0, 0, 1};
        for (int egg = 0; egg < 7; egg++) due("WARMTH of " + egg, x.behind(egg, 0), warmths[egg]);
        sayAnew(x, "A.A.");
        due("turned off", x.behind(0, 0), 1);
        sayAnew(x, "A.0B.");
        due("carried off", x.behind(0, 0), 1);
        sayAnew(x, "A1A.");
        due("carried there", x.behind(1, 0), 1);
        sentence("an eaten or hatched one is not warmer");
        due("eaten", judged(2, "A.0!.").behind(0, 0), 1);
        due("hatched", judged(2, "A.....").behind(0, 0), 3);
        due("mended", judged(2, "A.0!0+..").behind(0, 0), 1);
        sentence("9 at most");
        EggOrder y = coop(2);
        y.egg(1, WARMTH, 8);
        say(y, "B.");
        due("8 and 1", y.behind(1, 0), 9);
        say(y, ".");
        due("9 and 1", y.behind(1, 0), 9);
        say(y, times(57, "."));
        due("59 HOURS", y.behind(1, 0), 9);
        sentence("hatches, if it is whole and WARMTH is NEED at least");
        for (int warmth = 0; warmth <= 9; warmth++) {
            EggOrder z = judged(1, ".");
            z.egg(0, NEED, 4);
            z.egg(0, WARMTH, warmth);
            due("WARMTH " + warmth, z.hatched(0), warmth >= 4 ? 1 : NONE);
        }
        sentence("NEED 1 to 9 hours");
        for (int need = 1; need <= 9; need++) {
            EggOrder z = judged(1, "A" + times(9, "."));
            z.egg(0, NEED, need);
            due("NEED " + need, z.hatched(0), need);
        }
        termsOfDominoes();
    }

    private static void termsOfDominoes() {
        sentence("then the next one, if it can, and so on, all in that HOUR");
        EggOrder x = coop(7);
        lay(x, "6420135");
        for (int egg = 0; egg < 7; egg++) x.egg(egg, WARMTH, egg == 6 ? 2 : 3);
        say(x, ".");
        due("the first is too cold", x.judge(3), 0);
        say(x, "A.");
        due("all seven", x.judge(3), 7);
        due("all in HOUR 2", x.hatched(5), 2);
        x.egg(0, WARMTH, 1);
        due("three ahead of a cold one", x.judge(3), 3);
        due("the cold one", x.hatched(0), NONE);
        due("behind it", x.hatched(1), NONE);
        say(x, ".");
        due("four more, one HOUR later", x.judge(3), 7);
        due("behind it", x.hatched(5), 3);
        sentence("an eaten EGG that is not mended stops all behind it");
        sayAnew(x, "2!A..");
        due("two ahead of it", x.judge(3), 2);
        due("ahead", x.hatched(4), 1);
        due("itself", x.hatched(2), NONE);
        due("behind it", x.hatched(5), NONE);
        sayAnew(x, "2!A..2+");
        due("mended behind the last HOUR", x.judge(3), 2);
        say(x, ".");
        due("mended ahead of an HOUR", x.judge(3), 6);
        sayAnew(x, "6!A..");
        due("the first is eaten", x.judge(3), 0);
        sayAnew(x, "5!A..");
        due("the last is eaten", x.judge(3), 6);
    }

    private static void termsOfPad() {
        sentence("the PAD has up to 60 signs");
        EggOrder x = coop(1);
        for (int i = 1; i <= 60; i++) due("sign " + i, x.say('.'), i);
        due("sign 61", x.say('.'), FULL);
        due("sign 62", x.say('.'), FULL);
        due("told(0)", x.told(0), 60);
        due("HOURS", x.judge(2), 60);
        due("ACTS", x.done(), 60);
        due("empty again", x.say('.'), 1);
        sentence("codes 33 to 126");
        EggOrder y = coop(1);
        for (int sign = 33; sign <= 92; sign++) due("code " + sign, y.say(sign), sign - 32);
        due("wipe()", y.wipe(), 60);
        for (int sign = 93; sign <= 126; sign++) due("code " + sign, y.say(sign), sign - 92);
        due("code 32", y.say(32), OUTSIDE);
        due("code 127", y.say(127), OUTSIDE);
        due("told(0)", y.told(0), 34);
        faultsOfOrder();
        faultsOfWeek();
    }

    private static void faultsOfOrder() {
        sentence("an ORDER is a text of n digits, each EGG once");
        String[] orders = {"0", "10", "201", "3021", "43210", "024135", "6053142"};
        for (int n = 1; n <= 7; n++) due("order of " + n, fault(n, 0, orders[n - 1]), NONE);
        due("the least digits", fault(7, 0, "0123456"), NONE);
        sentence("of an ORDER: a digit of an EGG that there is not");
        for (int n = 1; n <= 7; n++) {
            due("EGG " + n + " of " + n, fault(n, 0, "" + n), 0);
            due("EGG " + (n - 1) + " of " + n, fault(n, 0, (n - 1) + "x"), 1);
        }
        due("8", fault(7, 0, "018"), 2);
        due("9", fault(7, 0, "0129"), 3);
        sentence("of an ORDER a second one, too");
        due("at once", fault(4, 0, "00"), 1);
        due("at the end", fault(4, 0, "3213"), 3);
        due("of the last EGG", fault(7, 0, "6016"), 3);
        sentence("of an ORDER: any other sign");
        for (char sign : "!/:.AF+@~".toCharArray()) due("sign " + sign, fault(4, 0, "2" + sign), 1);
        sentence("of an ORDER: a sign more than n");
        due("one more", fault(1, 0, "00"), 1);
        due("an HOUR more", fault(4, 0, "0123."), 4);
        due("many more", fault(7, 0, "0123456" + times(53, "0")), 7);
        sentence("of an ORDER: the number of signs, if more must come");
        for (int n = 1; n <= 7; n++) {
            for (int said = 0; said < n; said++) {
                due(said + " of " + n, fault(n, 0, "0123456".substring(0, said)), said);
            }
        }
        sentence("of an ORDER: the first sign that can not stand there");
        due("two of them", fault(4, 0, "1x1x"), 1);
    }

    private static void faultsOfWeek() {
        sentence("of a WEEK without signs there is none");
        for (int n = 1; n <= 7; n++) due("n " + n, fault(n, 1, ""), NONE);
        sentence("a WEEK: . and a capital A to F");
        due("all of them", fault(1, 1, ".ABCDEF."), NONE);
        for (char sign : "@Gaf/:!+~-,".toCharArray()) due("sign " + sign, fault(4, 1, ".A" + sign), 2);
        sentence("a digit of an EGG and a capital, ! or +");
        for (char sign : "ABCDEF!+".toCharArray()) due("0" + sign, fault(1, 1, "0" + sign), NONE);
        for (char sign : ".@Gaf0123/:\"*,-~".toCharArray()) due("0" + sign, fault(7, 1, ".0" + sign), 2);
        sentence("of a WEEK: a digit of an EGG that there is not");
        for (int n = 1; n <= 7; n++) {
            due("EGG " + n + " of " + n, fault(n, 1, ".A" + n + "A"), 2);
            due("EGG " + (n - 1) + " of " + n, fault(n, 1, ".A" + (n - 1) + "A"), NONE);
        }
        due("9", fault(7, 1, "9A"), 0);
        sentence("of a WEEK: the number of signs, if more must come");
        due("one digit", fault(1, 1, "0"), 1);
        due("behind an ACT", fault(4, 1, "0A1!3"), 5);
        due("60 signs", fault(4, 1, times(59, ".") + "3"), 60);
        due("60 signs that can stand", fault(4, 1, times(58, ".") + "3A"), NONE);
        sentence("of a WEEK: the first sign that can not stand there");
        due("two of them", fault(4, 1, "..x.x"), 2);
        due("an EGG twice is none", fault(4, 1, "0A0A"), NONE);
    }

    private static void dueAct(int n, String week, int act, int why) {
        EggOrder x = judged(n, week);
        due("judge(0) of " + week, x.judge(0), act);
        due("judge(1) of " + week, x.judge(1), why);
    }

    private static void termsOfActs() {
        sentence("an ACT can not be: 1 the EGG is hatched");
        dueAct(1, "A...0A", 4, 1);
        dueAct(1, "A...0!", 4, 1);
        dueAct(1, "A...0+", 4, 1);
        dueAct(1, "A..0A", NONE, NONE);
        sentence("1 (or mended)");
        dueAct(2, "0!0+0A", 2, 1);
        dueAct(2, "0!0+0!", 2, 1);
        dueAct(2, "0!0+0+", 2, 1);
        sentence("2 it is eaten (carried, eaten)");
        dueAct(2, "1!1F", 1, 2);
        dueAct(2, "1!1!", 1, 2);
        dueAct(2, "1!1+", NONE, NONE);
        sentence("3 it is whole (mended)");
        dueAct(2, "0+", 0, 3);
        dueAct(2, "A..0+", 3, 3);
        sentence("a STOVE and an HOUR always can be");
        dueAct(1, "AAFF.A.A.F.....", NONE, NONE);
    }

    private static void callsOfEggs() {
        sentence("A new object: four EGGS in their ORDER");
        EggOrder used = new EggOrder();
        used.eggs(2);
        used.stove(A, true);
        used.say('.');
        used.image(0);
        EggOrder x = new EggOrder();
        due("EGGS", x.told(1), 4);
        due("signs", x.told(0), 0);
        due("STOVES", x.told(2), 0);
        due("an image", x.restore(0), STATE);
        for (int place = 0; place < 4; place++) due("place " + place, x.told(10 + place), place);
        sentence("eggs: which it was; CLUES, SIGHTS go, and all is as at first, of n as it was, too");
        spoilt(x);
        due("eggs(5)", x.eggs(5), 5);
        due("CLUES", x.told(3), 0);
        due("SIGHTS", x.told(4), 0);
        due("STOVES", x.told(2), 0);
        due("the first of the ORDER", x.told(10), 0);
        due("hatched", x.told(64), 0);
        due("eaten", x.told(24), 0);
        due("the PAD stays", x.told(0), 7);
        due("an image stays", x.restore(0), 1);
        due("its CLUES", x.told(3), 2);
        sentence("egg: each fact at its least and its most: which it was");
        EggOrder y = coop(7);
        int[][] edges = {{1, 9, 3}, {0, 9, 0}, {0, 99, 1}, {A, F, A}};
        for (int what = NEED; what <= HOUSE; what++) {
            due("least of " + what, y.egg(6, what, edges[what][0]), edges[what][2]);
            due("most of " + what, y.egg(6, what, edges[what][1]), edges[what][0]);
            due("told of " + what, y.told(80 + what), edges[what][1]);
        }
        sentence("egg: NEED, WORTH, HOUSE of one that is not whole");
        act(y, "5!4!4+");
        for (int egg = 4; egg <= 5; egg++) {
            due("NEED of " + egg, y.egg(egg, NEED, 9), 3);
            due("WORTH of " + egg, y.egg(egg, WORTH, 99), 1);
            due("HOUSE of " + egg, y.egg(egg, HOUSE, A), egg);
            due("WARMTH of " + egg, y.egg(egg, WARMTH, 0), STATE);
        }
        stovesAndSigns();
    }

    private static void stovesAndSigns() {
        sentence("stove: on or off: all that are on, as bits");
        EggOrder x = coop(1);
        for (int house = A; house <= F; house++) due("on " + house, x.stove(house, true), (2 << house) - 1);
        due("on again", x.stove(F, true), 63);
        for (int house = A; house <= F; house++) due("off " + house, x.stove(house, false), 62 - ((2 << house) - 2));
        due("off again", x.stove(A, false), 0);
        sentence("wipe: signs go: how many there were");
        due("of none", x.wipe(), 0);
        say(x, "0");
        due("of one", x.wipe(), 1);
        due("no FAULT (1)", x.fault(1), NONE);
        due("a FAULT (0)", x.fault(0), 0);
        say(x, times(60, "0"));
        due("of 60", x.wipe(), 60);
        due("of none again", x.wipe(), 0);
        sentence("order: the ORDER on the PAD is it (the PAD is empty then)");
        say(x, "0");
        due("of one EGG", x.order(), 1);
        due("the PAD", x.told(0), 0);
        EggOrder y = coop(7);
        say(y, "6543201");
        due("of seven", y.order(), 1);
        int[] row = {6, 5, 4, 3, 2, 0, 1};
        for (int place = 0; place < 7; place++) due("place " + place, y.told(10 + place), row[place]);
        due("of nothing", y.order(), NO);
        say(y, "0123456.");
        due("of a sign more", y.order(), NO);
        due("the PAD stays", y.told(0), 8);
        due("the ORDER stays", y.told(10), 6);
        y.clue(AHEAD, 0, 1);
        y.seen(0, 0);
        lay(y, "6012345");
        due("CLUES stay", y.told(3), 1);
        due("SIGHTS stay", y.told(4), 1);
        sayAnew(y, "012345");
        due("of a sign less", y.order(), NO);
        y.egg(6, WARMTH, 3);
        act(y, ".");
        sayAnew(y, "0123456");
        due("one is hatched", y.order(), STATE);
        y.eggs(7);
        due("all are whole again", y.order(), 1);
    }

    // ---- 2 weeks

    private static void callsOfWeeks() {
        sentence("judge: of a WEEK without signs");
        EggOrder x = coop(3);
        due("the ACT", x.judge(0), NONE);
        due("why", x.judge(1), NONE);
        due("HOURS", x.judge(2), 0);
        due("how many hatch", x.judge(3), 0);
        sentence("JUDGED: the first ACT (from 0 on) that can not be, counted in ACTS");
        dueAct(3, "0+", 0, 3);
        dueAct(3, "0A1B2C.A2+", 5, 3);
        dueAct(3, "0+0!0!1+", 0, 3);
        dueAct(3, times(58, ".") + "1+", 58, 3);
        sentence("judge: how many hatch: not those that are mended or hatched ahead");
        EggOrder y = coop(3);
        for (int egg = 0; egg < 3; egg++) y.egg(egg, WARMTH, 3);
        say(y, "1!1+.");
        due("two of three", y.judge(3), 2);
        y.done();
        say(y, "..");
        due("none is left", y.judge(3), 0);
        due("HOURS", y.judge(2), 2);
        sentence("BEHIND: of a WEEK without signs it is as now");
        for (int what = 0; what <= 2; what++) {
            sayAnew(y, "");
            due("behind(1, " + what + ")", y.behind(1, what), y.state(1, what));
        }
        sentence("BEHIND: whole (0), hatched (1), eaten (2)");
        EggOrder z = judged(4, "A...1!2!2+3F");
        int[] kinds = {1, 2, 1, 0};
        for (int egg = 0; egg < 4; egg++) due("EGG " + egg, z.behind(egg, 2), kinds[egg]);
        due("HOUSE", z.behind(3, 1), F);
        due("HOUSE now", z.state(3, 1), D);
        due("WARMTH", z.behind(0, 0), 3);
        due("WARMTH now", z.state(0, 0), 0);
        hoursOfHatching();
        whereItStops();
        weeksDone();
    }

    private static void hoursOfHatching() {
        sentence("HATCHED: the HOUR (from 1 on)");
        EggOrder x = judged(2, times(58, ".") + "A.");
        x.egg(0, NEED, 1);
        due("HOUR 59", x.hatched(0), 59);
        x.egg(0, WARMTH, 1);
        due("HOUR 1", x.hatched(0), 1);
        sentence("HATCHED: 0: it was hatched ahead");
        x.done();
        due("of no signs", x.hatched(0), 0);
        say(x, "..");
        due("of HOURS", x.hatched(0), 0);
        sentence("HATCHED: 0: or is mended");
        EggOrder y = judged(2, ".0!0+.");
        due("mended in the WEEK", y.hatched(0), 0);
        act(y, "0!0+");
        due("mended ahead", y.hatched(0), 0);
        act(y, "1!");
        say(y, ".1+");
        due("eaten ahead, mended in the WEEK", y.hatched(1), 0);
        sentence("HATCHED: NONE: in none");
        due("of no signs", coop(1).hatched(0), NONE);
        due("too cold", judged(1, "A..").hatched(0), NONE);
        due("eaten", judged(1, "A..0!.").hatched(0), NONE);
        due("no HOUR is left", judged(2, "A...").hatched(1), NONE);
    }

    private static void whereItStops() {
        sentence("STOPS: the first EGG of the ORDER that is not hatched");
        EggOrder x = coop(3);
        lay(x, "201");
        due("of no signs", x.stops(0), 2);
        say(x, "C...");
        due("the next", x.stops(0), 0);
        say(x, "A...");
        due("the last", x.stops(0), 1);
        sayAnew(x, "2!");
        due("eaten", x.stops(0), 2);
        sayAnew(x, "2!2+");
        due("mended", x.stops(0), 0);
        sentence("STOPS: NONE: all are");
        sayAnew(x, "ABC...");
        due("all hatch", x.stops(0), NONE);
        due("none waits", x.stops(1), 0);
        sentence("IN VAIN: whole EGGS farther on that are warm enough (WARMTH is NEED at least)");
        sayAnew(x, "");
        x.egg(0, NEED, 5);
        x.egg(0, WARMTH, 4);
        due("too cold", x.stops(1), 0);
        x.egg(0, WARMTH, 5);
        due("NEED", x.stops(1), 1);
        x.egg(0, WARMTH, 9);
        due("more", x.stops(1), 1);
        x.egg(1, WARMTH, 3);
        due("both", x.stops(1), 3);
        x.egg(2, WARMTH, 9);
        due("it that stops is not farther on", x.stops(1), 3);
        due("it stops, though it is warm", x.stops(0), 2);
        sayAnew(x, "2!0!");
        due("an eaten one does not wait", x.stops(1), 2);
        sayAnew(x, "0!.");
        due("none ahead of it", x.stops(1), 2);
        sayAnew(x, "0!2!0+.");
        due("a mended one does not wait", x.stops(1), 2);
        sentence("IN VAIN: farther on than the first that is not hatched, to the last of the ORDER and no farther");
        for (int n = 1; n <= 7; n++) {
            for (int stopping = 0; stopping < n; stopping++) {
                EggOrder y = coop(n);
                lay(y, stopping + "0123456".substring(0, n).replace("" + stopping, ""));
                y.egg(stopping, WARMTH, 9);
                due(stopping + " of " + n + " stops", y.stops(0), stopping);
                due(stopping + " of " + n + " is not behind itself", y.stops(1), 0);
                for (int egg = 0; egg < n; egg++) y.egg(egg, WARMTH, 9);
                due("all of " + n + " behind " + stopping, y.stops(1), (1 << n) - 1 - (1 << stopping));
            }
        }
    }

    private static void weeksDone() {
        sentence("done: ACTS; of a WEEK without signs 0");
        EggOrder x = coop(3);
        due("of none", x.done(), 0);
        sentence("DONE: it is so then (the PAD is empty then)");
        say(x, "A...0!");
        due("the last can not be", x.done(), STATE);
        due("the PAD stays", x.told(0), 6);
        due("no STOVE", x.told(2), 0);
        due("no WARMTH", x.told(21), 0);
        sayAnew(x, "1F2!FA..F");
        due("ACTS, not signs", x.done(), 7);
        due("the PAD", x.told(0), 0);
        due("STOVES", x.told(2), 1);
        due("WARMTH 0", x.state(0, 0), 2);
        due("WARMTH 1", x.state(1, 0), 2);
        due("HOUSE 1", x.state(1, 1), F);
        due("eaten", x.state(2, 2), 2);
        due("of none again", x.done(), 0);
        say(x, ".2+");
        due("goes on from there", x.done(), 2);
        due("hatched", x.state(0, 2), 1);
        due("mended", x.state(2, 2), 1);
        sentence("done: CLUES and SIGHTS stay");
        x.clue(AHEAD, 0, 1);
        x.seen(0, 0);
        say(x, "A");
        due("done()", x.done(), 1);
        due("CLUES", x.told(3), 1);
        due("SIGHTS", x.told(4), 1);
        sentence("a WEEK of 60 signs");
        say(x, times(60, "A"));
        due("done()", x.done(), 60);
        due("STOVES", x.told(2), 0);
    }

    // ---- 3 clues

    private static void callsOfClues() {
        sentence("CLUES, 12 at most; of one kind, or of all");
        for (int kind = AHEAD; kind <= NOT_AT; kind++) {
            EggOrder x = coop(7);
            for (int i = 1; i <= 12; i++) due("kind " + kind + ", CLUE " + i, x.clue(kind, 6, 0), i);
            due("kind " + kind + ", CLUE 13", x.clue(kind, 6, 0), FULL);
            due("told(3)", x.told(3), 12);
            due("forget(0)", x.forget(0), 12);
            due("CLUE 1 again", x.clue(kind, 6, 0), 1);
        }
        sentence("the twelfth CLUE counts as the first does, the thirteenth does not");
        EggOrder x = coop(3);
        for (int i = 1; i <= 11; i++) x.clue(NOT_AT, 0, 2);
        due("eleven of one", x.fits(-1), 4);
        x.clue(AHEAD, 1, 0);
        due("the twelfth", x.fits(-1), 1);
        x.clue(AHEAD, 0, 1);
        due("the thirteenth", x.fits(-1), 1);
        sentence("SIGHTS, 7 at most");
        EggOrder y = coop(7);
        for (int i = 1; i <= 7; i++) due("SIGHT " + i, y.seen(i - 1, 0), i);
        due("SIGHT 8", y.seen(0, 0), FULL);
        due("told(4)", y.told(4), 7);
        due("forget(1)", y.forget(1), 7);
        due("SIGHT 1 again", y.seen(6, 60), 1);
        sentence("the seventh SIGHT counts as the first does, the eighth does not");
        y.forget(1);
        for (int i = 1; i <= 6; i++) y.seen(0, 0);
        due("six of one", y.fits(-1), 5040);
        y.seen(1, 1);
        due("the seventh", y.fits(-1), 0);
        EggOrder z = coop(2);
        for (int i = 1; i <= 7; i++) z.seen(0, 0);
        z.seen(0, 1);
        due("the eighth", z.fits(-1), 2);
        sentence("forget: of none");
        due("CLUES", coop(2).forget(0), 0);
        due("SIGHTS", coop(2).forget(1), 0);
        kindsOfClues();
        numbersOfClues();
        edgesOfSights();
        sightsAndWeeks();
        edgesOfFits();
        edgesOfCertain();
        edgesOfAsk();
    }

    private static long fitting(int n, int kind, int egg, int other) {
        EggOrder x = coop(n);
        x.clue(kind, egg, other);
        return x.fits(-1);
    }

    private static void kindsOfClues() {
        sentence("CLUE 0: the first EGG was laid ahead of the second");
        due("of 2", fitting(2, AHEAD, 1, 0), 1);
        due("of 7", fitting(7, AHEAD, 0, 6), 2520);
        sentence("CLUE 1: right ahead of it");
        due("of 2", fitting(2, RIGHT_AHEAD, 1, 0), 1);
        due("of 7", fitting(7, RIGHT_AHEAD, 0, 6), 720);
        EggOrder x = coop(4);
        x.clue(RIGHT_AHEAD, 2, 0);
        x.clue(AT, 0, 0);
        due("none is ahead of the first", x.fits(-1), 0);
        x.forget(0);
        x.clue(RIGHT_AHEAD, 2, 0);
        x.clue(RIGHT_AHEAD, 2, 1);
        due("one right ahead of two", x.fits(-1), 0);
        x.forget(0);
        x.clue(RIGHT_AHEAD, 2, 0);
        x.clue(RIGHT_AHEAD, 3, 0);
        due("two right ahead of one", x.fits(-1), 0);
        x.forget(0);
        x.clue(RIGHT_AHEAD, 3, 2);
        x.clue(RIGHT_AHEAD, 2, 1);
        x.clue(RIGHT_AHEAD, 1, 0);
        due("a chain of all", x.fits(-1), 1);
        due("its first", x.fits(0), 3);
        x.clue(RIGHT_AHEAD, 0, 3);
        due("a ring", x.fits(-1), 0);
        sentence("CLUE 2: the EGG was laid as the k-th (k 0 on)");
        for (int k = 0; k < 7; k++) {
            EggOrder y = coop(7);
            y.clue(AT, 3, k);
            due("k " + k, y.fits(-1), 720);
            due("it stands there", y.fits(k), 3);
            due("it stands there alone", y.places(3), 1 << k);
        }
        sentence("CLUE 3: not as the k-th");
        for (int k = 0; k < 7; k++) {
            EggOrder y = coop(7);
            y.clue(NOT_AT, 3, k);
            due("k " + k, y.fits(-1), 4320);
            due("not there", y.places(3), 127 - (1 << k));
        }
    }

    private static void numbersOfClues() {
        sentence("clue: k 0 to n less 1 (2, 3)");
        for (int n = 1; n <= 7; n++) {
            EggOrder x = coop(n);
            due("k 0", x.clue(AT, 0, 0), 1);
            due("k " + (n - 1), x.clue(NOT_AT, 0, n - 1), 2);
            due("k " + n, x.clue(AT, 0, n), OUTSIDE);
            due("k " + n, x.clue(NOT_AT, 0, n), OUTSIDE);
            due("k -1", x.clue(AT, 0, -1), OUTSIDE);
        }
        sentence("clue: UNKNOWN: the second one (0, 1; both must not be one)");
        for (int n = 1; n <= 7; n++) {
            EggOrder x = coop(n);
            due("EGG " + n, x.clue(AHEAD, 0, n), UNKNOWN);
            due("EGG " + n, x.clue(RIGHT_AHEAD, 0, n), UNKNOWN);
            due("both the last", x.clue(AHEAD, n - 1, n - 1), UNKNOWN);
            due("both the last", x.clue(RIGHT_AHEAD, n - 1, n - 1), UNKNOWN);
            due("the last at its number", x.clue(AT, n - 1, n - 1), 1);
        }
        sentence("clue: UNKNOWN: the EGG, ahead of OUTSIDE: k; OUTSIDE: kind ahead of both");
        EggOrder x = coop(3);
        due("EGG and k", x.clue(AT, 3, 3), UNKNOWN);
        due("kind and EGG", x.clue(4, 3, 3), OUTSIDE);
    }

    private static void edgesOfSights() {
        sentence("seen: OUTSIDE: 0 to 60");
        EggOrder x = coop(1);
        due("0", x.seen(0, 0), 1);
        due("60", x.seen(0, 60), 2);
        due("61", x.seen(0, 61), OUTSIDE);
        due("-1", x.seen(0, -1), OUTSIDE);
        sentence("an EGG hatches in an HOUR (1 on), or in none (0)");
        EggOrder y = coop(1);
        due("no SIGHT", y.fits(-1), 1);
        y.seen(0, 0);
        due("0, no signs", y.fits(-1), 1);
        say(y, "A..");
        due("0, too cold", y.fits(-1), 1);
        say(y, ".");
        due("0, it hatches", y.fits(-1), 0);
        int[] hours = {1, 2, 3, 4, 59, 60};
        for (int hour : hours) {
            y.forget(1);
            y.seen(0, hour);
            due("HOUR " + hour + " of the third", y.fits(-1), hour == 3 ? 1 : 0);
        }
        sentence("a SIGHT is of its EGG alone");
        EggOrder w = judged(3, "B...");
        w.seen(1, 3);
        due("1 is first", w.fits(-1) * 10 + w.firsts(), 22);
        w.forget(1);
        w.seen(2, 3);
        due("2 hatches in none", w.fits(-1), 0);
        w.forget(1);
        w.seen(1, 0);
        due("1 is not first", w.fits(-1) * 10 + w.firsts(), 45);
        sentence("a SIGHT of an HOUR behind the last");
        y.forget(1);
        y.seen(0, 3);
        sayAnew(y, "A..");
        due("HOUR 3 of two", y.fits(-1), 0);
        sayAnew(y, "");
        due("HOUR 3 of none", y.fits(-1), 0);
        sentence("a SIGHT of the last HOUR that can be");
        EggOrder z = coop(2);
        say(z, times(57, ".") + "AB.");
        z.egg(0, NEED, 1);
        z.egg(1, NEED, 1);
        z.seen(0, 58);
        due("HOUR 58", z.fits(-1), 2);
        z.seen(1, 58);
        due("both", z.fits(-1), 2);
        z.seen(1, 60);
        due("two HOURS of one", z.fits(-1), 0);
    }

    private static void sightsAndWeeks() {
        sentence("while there are SIGHTS the WEEK must have no ! nor +, and all EGGS must be whole now");
        EggOrder x = coop(3);
        x.seen(0, 0);
        due("no signs", x.fits(-1), 6);
        say(x, "0!");
        due("!", x.fits(-1), NO);
        say(x, "0+");
        due("! and +", x.fits(-1), NO);
        sayAnew(x, "0+");
        due("+ that can not be", x.fits(-1), NO);
        sayAnew(x, "0");
        due("a FAULT", x.fits(-1), NO);
        sayAnew(x, "012");
        due("an ORDER", x.fits(-1), NO);
        act(x, "2!");
        due("one is eaten", x.fits(-1), STATE);
        act(x, "2+");
        due("one is mended", x.fits(-1), STATE);
        due("CLUES alone", x.forget(1) + x.fits(-1), 7);
        say(x, "0!?");
        due("CLUES alone, a FAULT", x.fits(-1), 6);
        sentence("orders by which all ACTS can be");
        EggOrder y = judged(3, "A..B.0B");
        y.seen(2, 0);
        due("EGG 0 must not be first", y.fits(-1), 4);
        due("the first of them", y.fits(0), 1);
        sayAnew(y, "A..0B.");
        due("carried in time", y.fits(-1), 6);
        sayAnew(y, "ABC...0A1B2C");
        y.forget(1);
        y.seen(0, 3);
        due("all have hatched", y.fits(-1), 0);
        y.forget(1);
        due("no SIGHTS, no ACTS", y.fits(-1), 6);
        sentence("carried in the WEEK's HOURS to warm HOUSES and cold ones");
        sayAnew(y, "A..1A.0F.");
        y.seen(0, 4);
        due("EGG 0 is carried off when it is warm", y.fits(-1), 0);
        y.forget(1);
        y.seen(0, 0);
        due("0 behind 1 or 2", y.fits(-1), 4);
        y.forget(1);
        y.seen(2, 3);
        sayAnew(y, "A2A...");
        due("2 is first, or 0 and 2", y.fits(-1) * 10 + y.firsts(), 35);
    }

    private static void edgesOfFits() {
        sentence("FITS: how many (place = -1), the EGG at a place of the first");
        int all = 1;
        for (int n = 1; n <= 7; n++) {
            all *= n;
            EggOrder x = coop(n);
            due("of " + n, x.fits(-1), all);
            due("the first place", x.fits(0), 0);
            due("the last place", x.fits(n - 1), n - 1);
        }
        sentence("fits: NONE: at a place that there is not");
        for (int n = 1; n <= 7; n++) {
            EggOrder x = coop(n);
            due("place " + n, x.fits(n), NONE);
            due("place -2", x.fits(-2), NONE);
            due("the least", x.fits(LEAST), NONE);
            due("the most", x.fits(MOST), NONE);
        }
        sentence("FITS: the first (by digits)");
        EggOrder x = coop(4);
        x.clue(NOT_AT, 0, 0);
        x.clue(NOT_AT, 1, 0);
        x.clue(AHEAD, 3, 0);
        due("2", x.fits(0), 2);
        due("21", x.fits(1), 1);
        due("213", x.fits(2), 3);
        due("2130", x.fits(3), 0);
        sentence("what nothing fits");
        x.clue(AHEAD, 0, 3);
        due("how many", x.fits(-1), 0);
        for (int place = 0; place < 4; place++) due("place " + place, x.fits(place), NONE);
        for (int egg = 0; egg < 4; egg++) due("places(" + egg + ")", x.places(egg), 0);
        due("firsts()", x.firsts(), 0);
        due("certain(0, 3)", x.certain(0, 3), NONE);
        due("certain(1, 2)", x.certain(1, 2), NONE);
        due("ask(0)", x.ask(0), NONE);
        due("ask(1)", x.ask(1), NONE);
        due("UNKNOWN first", x.certain(0, 4), UNKNOWN);
        due("OUTSIDE first", x.ask(2), OUTSIDE);
        sentence("PLACES and FIRSTS without CLUES: all");
        for (int n = 1; n <= 7; n++) {
            EggOrder y = coop(n);
            due("places of " + n, y.places(n - 1), (1 << n) - 1);
            due("firsts of " + n, y.firsts(), (1 << n) - 1);
        }
    }

    private static void edgesOfCertain() {
        sentence("CERTAIN: 1, if one is ahead of another one in all of them (2: behind it in all; 0: else)");
        EggOrder x = coop(7);
        due("no CLUES", x.certain(0, 6), 0);
        x.clue(AHEAD, 6, 3);
        x.clue(AHEAD, 3, 0);
        due("ahead by two CLUES", x.certain(6, 0), 1);
        due("behind by two CLUES", x.certain(0, 6), 2);
        due("else", x.certain(5, 6), 0);
        x.forget(0);
        x.clue(AT, 2, 6);
        due("ahead of the last", x.certain(4, 2), 1);
        due("the last", x.certain(2, 4), 2);
        sentence("certain: in all but one");
        EggOrder y = coop(2);
        due("of two orders", y.certain(0, 1), 0);
        y.clue(NOT_AT, 1, 0);
        due("of one order", y.certain(0, 1), 1);
        sentence("certain: UNKNOWN: both, also one");
        due("the first", y.certain(2, 0), UNKNOWN);
        due("the second", y.certain(0, 2), UNKNOWN);
        due("both", y.certain(2, 3), UNKNOWN);
        due("both are one", y.certain(0, 0), UNKNOWN);
        due("n 1", coop(1).certain(0, 0), UNKNOWN);
    }

    private static void edgesOfAsk() {
        sentence("ASK: fewest are left at the most");
        int left = 1;
        for (int n = 1; n <= 7; n++) {
            EggOrder x = coop(n);
            due("the least of " + n, x.ask(0), 0);
            due("of " + n, x.ask(1), left);
            left *= n;
        }
        sentence("ASK: the least of those that are as good");
        EggOrder x = coop(4);
        x.clue(AT, 0, 3);
        due("the second one", x.ask(0), 1);
        due("how many", x.ask(1), 2);
        x.clue(AT, 1, 0);
        due("the third one", x.ask(0), 2);
        due("how many", x.ask(1), 1);
        x.clue(AHEAD, 3, 2);
        due("one order: the first", x.ask(0), 0);
        due("how many", x.ask(1), 1);
    }

    // ---- 4 chains, houses

    private static void dueMended(String order, String eaten, int bits) {
        EggOrder x = coop(order.length());
        lay(x, order);
        for (int i = 0; i < eaten.length(); i++) act(x, eaten.charAt(i) + "!");
        due("mend(0), eaten " + eaten, x.mend(0), Integer.bitCount(bits));
        due("mend(1), eaten " + eaten, x.mend(1), bits);
    }

    private static void callsOfChains() {
        sentence("MEND: no whole one stands behind an eaten one");
        dueMended("0", "", 0);
        dueMended("0", "0", 0);
        dueMended("6543210", "", 0);
        dueMended("6543210", "0", 0);
        dueMended("6543210", "1", 2);
        dueMended("6543210", "012", 0);
        dueMended("6543210", "123456", 126);
        dueMended("6543210", "6", 64);
        dueMended("6543210", "0123456", 0);
        dueMended("6543210", "531", 42);
        sentence("MEND: hatched ones stand in nobody's way");
        EggOrder x = coop(3);
        x.egg(0, WARMTH, 3);
        act(x, ".1!2!");
        due("behind a hatched one", x.mend(1), 0);
        act(x, "2+");
        due("ahead of a mended one", x.mend(1), 0);
        sentence("SOONEST: c STOVES at most (1 to 6)");
        EggOrder y = coop(7);
        int[] hours = {18, 9, 6, 5, 4, 3};
        for (int c = 1; c <= 6; c++) due("c " + c, y.soonest(c), hours[c - 1]);
        due("c 0", y.soonest(0), OUTSIDE);
        due("c 7", y.soonest(7), OUTSIDE);
        y.egg(6, NEED, 9);
        due("the longest of a HOUSE", y.soonest(6), 9);
        due("the sum", y.soonest(1), 24);
        sentence("SOONEST: till all whole EGGS are warm enough (whether they hatch or not)");
        act(y, "0!");
        due("behind an eaten one", y.soonest(6), 9);
        act(y, "6!");
        due("none in A", y.soonest(1), 15);
        EggOrder z = coop(2);
        z.egg(0, WARMTH, 3);
        z.egg(1, WARMTH, 9);
        due("all are warm", z.soonest(1), 0);
        z.egg(1, WARMTH, 2);
        due("one HOUR more", z.soonest(1), 1);
        act(z, "1!");
        due("the cold one is eaten", z.soonest(1), 0);
        act(z, "0!");
        due("none is whole", z.soonest(6), 0);
        sentence("SOONEST: STOVES that are on now do not count");
        EggOrder w = coop(3);
        for (int house = A; house <= F; house++) w.stove(house, true);
        due("c 1", w.soonest(1), 9);
    }

    private static void callsOfHouses() {
        sentence("RESTS: it pays COST (0 to 99), if it heats; no HOUSE does better by doing otherwise alone");
        EggOrder x = coop(1);
        due("COST 0", x.rests(0, -1), 1);
        due("COST 0: it heats", x.rests(0, 0), 1);
        due("COST 1: as good", x.rests(1, -1), 2);
        due("COST 2", x.rests(2, -1), 1);
        due("COST 2: it does not", x.rests(2, 0), 0);
        x.egg(0, WORTH, 99);
        due("COST 98, WORTH 99", x.rests(98, -1), 1);
        due("it heats", x.rests(98, 0), 1);
        due("COST 99, WORTH 99", x.rests(99, -1), 2);
        x.egg(0, WORTH, 98);
        due("COST 99, WORTH 98", x.rests(99, -1), 1);
        due("it does not", x.rests(99, 0), 0);
        x.egg(0, WORTH, 0);
        due("COST 0, WORTH 0", x.rests(0, -1), 2);
        sentence("RESTS: the i-th (as bits; rising); NONE (i below -1, too)");
        EggOrder y = coop(6);
        due("how many", y.rests(1, -1), 7);
        for (int i = 0; i <= 6; i++) due("i " + i, y.rests(1, i), (1 << i) - 1);
        due("i 7", y.rests(1, 7), NONE);
        due("i 64", y.rests(1, 64), NONE);
        due("i -2", y.rests(1, -2), NONE);
        due("the least i", y.rests(1, LEAST), NONE);
        due("the most i", y.rests(1, MOST), NONE);
        sentence("RESTS: all 64 sets, if nothing is to get nor to pay");
        for (int egg = 0; egg < 6; egg++) y.egg(egg, WORTH, 0);
        due("how many", y.rests(0, -1), 64);
        due("i 63", y.rests(0, 63), 63);
        due("i 64", y.rests(0, 64), NONE);
        sentence("RESTS: each HOUSE that has whole EGGS");
        act(y, "5!0!0+");
        due("B to E", y.rests(0, -1), 16);
        due("the first to heat", y.rests(0, 1), 2);
        act(y, "1!2!3!4!");
        due("no HOUSE", y.rests(0, -1), 1);
        due("none heats", y.rests(99, 0), 0);
        due("i 1", y.rests(0, 1), NONE);
        sentence("RESTS: warm enough now: heating is in vain");
        EggOrder z = coop(2);
        z.egg(0, WARMTH, 3);
        z.egg(1, WARMTH, 2);
        due("NEED and one less", z.rests(0, 0), 2);
        due("two sets", z.rests(0, -1), 2);
        due("at COST 1", z.rests(1, 1), 2);
        z.stove(B, true);
        due("a STOVE that is on does not count", z.rests(0, 0), 2);
        meansOfRows();
    }

    private static void meansOfRows() {
        sentence("SHAPLEY: what a HOUSE adds in the mean of all rows of all six HOUSES");
        EggOrder x = coop(7);
        dueFraction("A of seven", x.shapley(A, 0), x.shapley(A, 1), 157, 60);
        dueFraction("B of seven", x.shapley(B, 0), x.shapley(B, 1), 97, 60);
        dueFraction("E of seven", x.shapley(E, 0), x.shapley(E, 1), 8, 15);
        dueFraction("F of seven", x.shapley(F, 0), x.shapley(F, 1), 1, 3);
        sentence("SHAPLEY: WORTH 0 to 99");
        for (int egg = 0; egg < 7; egg++) x.egg(egg, WORTH, 99);
        dueFraction("A at the most", x.shapley(A, 0), x.shapley(A, 1), 5181, 20);
        for (int egg = 0; egg < 7; egg++) x.egg(egg, WORTH, 0);
        dueFraction("A at the least", x.shapley(A, 0), x.shapley(A, 1), 0, 1);
        sentence("SHAPLEY: (what hatches if none heats, too)");
        EggOrder y = coop(2);
        y.egg(0, WARMTH, 3);
        dueFraction("A adds nothing", y.shapley(A, 0), y.shapley(A, 1), 0, 1);
        dueFraction("B adds all of its own", y.shapley(B, 0), y.shapley(B, 1), 1, 1);
        act(y, "0!");
        dueFraction("behind an eaten one", y.shapley(B, 0), y.shapley(B, 1), 0, 1);
        act(y, "0+");
        dueFraction("behind a mended one", y.shapley(B, 0), y.shapley(B, 1), 1, 1);
        act(y, "1!");
        dueFraction("none is whole", y.shapley(B, 0), y.shapley(B, 1), 0, 1);
    }

    private static void callsOfChance() {
        sentence("HOPE: t tenths (0 to 10)");
        EggOrder x = coop(7);
        dueFraction("mean, 0", x.hope(0, 0, 0), x.hope(0, 0, 1), 7, 1);
        dueFraction("all, 0", x.hope(0, 1, 0), x.hope(0, 1, 1), 1, 1);
        dueFraction("mean, 1", x.hope(1, 0, 0), x.hope(1, 0, 1), 46953279, 10000000);
        dueFraction("all, 1", x.hope(1, 1, 0), x.hope(1, 1, 1), 4782969, 10000000);
        dueFraction("mean, 5", x.hope(5, 0, 0), x.hope(5, 0, 1), 127, 128);
        dueFraction("mean, 9", x.hope(9, 0, 0), x.hope(9, 0, 1), 1111111, 10000000);
        dueFraction("all, 9", x.hope(9, 1, 0), x.hope(9, 1, 1), 1, 10000000);
        dueFraction("mean, 10", x.hope(10, 0, 0), x.hope(10, 0, 1), 0, 1);
        dueFraction("all, 10", x.hope(10, 1, 0), x.hope(10, 1, 1), 0, 1);
        sentence("HOPE: if nothing eaten (now) stands ahead of them");
        lay(x, "6543210");
        act(x, "6!");
        dueFraction("mean, the first", x.hope(0, 0, 0), x.hope(0, 0, 1), 0, 1);
        dueFraction("all, the first", x.hope(0, 1, 0), x.hope(0, 1, 1), 0, 1);
        act(x, "6+0!");
        dueFraction("mean, the last", x.hope(0, 0, 0), x.hope(0, 0, 1), 5, 1);
        dueFraction("all, the last", x.hope(0, 1, 0), x.hope(0, 1, 1), 1, 1);
        dueFraction("all of five", x.hope(5, 1, 0), x.hope(5, 1, 1), 1, 32);
        sentence("HOPE: no EGG is whole");
        act(x, "1!2!3!4!5!");
        dueFraction("mean", x.hope(4, 0, 0), x.hope(4, 0, 1), 0, 1);
        dueFraction("all", x.hope(10, 1, 0), x.hope(10, 1, 1), 1, 1);
        sentence("HOPE: WARMTH, NEED and STOVES do not count");
        EggOrder y = coop(1);
        y.egg(0, NEED, 9);
        dueFraction("cold", y.hope(1, 0, 0), y.hope(1, 0, 1), 9, 10);
        years();
    }

    /** The STOVES of a YEAR, added, by the words of the document alone. */
    private static int stovesOfYear(int seed, int m) {
        boolean[] on = new boolean[6];
        long x = seed;
        int sum = 0;
        for (int hour = 1; hour <= m; hour++) {
            x = (75L * x + 74L) % 65537L;
            int house = (int) (x % 6L);
            on[house] = !on[house];
            for (boolean is : on) sum += is ? 1 : 0;
        }
        return sum;
    }

    private static void years() {
        sentence("a YEAR by a seed (0 to 9999) of m HOURS (1 to 99)");
        EggOrder x = coop(1);
        for (int seed : new int[] {0, 1, 872, 873, 874, 1747, 9998, 9999}) {
            due("seed " + seed + ", m 1", x.year(seed, 1, 2), 1);
            due("seed " + seed + ", m 99", x.year(seed, 99, 2), stovesOfYear(seed, 99));
        }
        due("seed 10000", x.year(10000, 1, 2), OUTSIDE);
        due("m 0", x.year(0, 0, 2), OUTSIDE);
        due("m 100", x.year(0, 100, 2), OUTSIDE);
        sentence("becomes (75 x and 74) left over by 65537; STOVE x left over by 6");
        // 872 becomes 65474 (C), 873 65549, which is 12 (A), 9999 29092 (E), then 19253 (F).
        x.egg(0, NEED, 1);
        int[][] seedAndHouse = {{872, C}, {873, A}, {9999, E}, {0, C}};
        for (int[] drawn : seedAndHouse) {
            for (int house = A; house <= F; house++) {
                x.egg(0, HOUSE, house);
                due("seed " + drawn[0] + ", HOUSE " + house, x.year(drawn[0], 1, 0), house == drawn[1] ? 1 : 0);
            }
        }
        x.egg(0, HOUSE, F);
        due("the second of 9999", x.year(9999, 2, 1), 2);
        sentence("the last HOUR in which one does (0: none)");
        EggOrder y = coop(2);
        due("none", y.year(0, 1, 1), 0);
        y.egg(0, WARMTH, 9);
        due("HOUR 1", y.year(0, 1, 1), 1);
        y.egg(1, WARMTH, 9);
        due("both in HOUR 1", y.year(0, 99, 1), 1);
        due("how many", y.year(0, 99, 0), 2);
        sentence("a YEAR is from all as it is");
        act(y, ".");
        due("hatched ahead", y.year(0, 99, 0), 0);
        due("no HOUR", y.year(0, 99, 1), 0);
        y.eggs(2);
        y.egg(0, WARMTH, 9);
        y.egg(1, WARMTH, 9);
        act(y, "0!");
        due("an eaten one stops all behind it", y.year(0, 99, 0), 0);
        y.stove(C, true);
        due("a STOVE that is on is turned off", y.year(0, 1, 2), 0);
        due("it is on in fact", y.told(2), 4);
    }

    private static void callsOfImages() {
        sentence("all but the PAD is kept in an IMAGE (0, 1)");
        for (int k = 0; k <= 1; k++) {
            EggOrder x = begun(BoundaryTests::rich);
            x.wipe();
            say(x, "..");
            due("image(" + k + ")", x.image(k), 1);
            x.eggs(7);
            lay(x, "6543210");
            x.clue(AHEAD, 6, 5);
            x.seen(6, 9);
            say(x, "F");
            due("restore(" + k + ")", x.restore(k), 1);
            due("the PAD stays", x.told(0), 1);
            due("it is F", x.done() + x.told(2), 41);
            x.stove(F, false);
            EggOrder twin = begun(BoundaryTests::rich);
            twin.wipe();
            List<Long> want = new ArrayList<>();
            List<Long> got = new ArrayList<>();
            tellAll(twin, want);
            tellAll(x, got);
            due("is all as it was when it was kept (1)", got.equals(want) ? 1 : 0, 1);
        }
        sentence("what CLUES and SIGHTS say is kept, too");
        EggOrder y = judged(3, "A...");
        y.clue(AHEAD, 2, 1);
        y.seen(0, 3);
        y.image(0);
        y.forget(0);
        y.forget(1);
        y.clue(AHEAD, 1, 2);
        y.seen(0, 0);
        due("other ones", y.fits(0) * 10 + y.fits(1), 10);
        y.restore(0);
        due("the first of what was", y.fits(0) * 10 + y.fits(1), 2);
        y.forget(1);
        y.forget(0);
        y.clue(RIGHT_AHEAD, 2, 0);
        y.clue(AT, 1, 0);
        y.clue(NOT_AT, 0, 1);
        y.seen(2, 0);
        y.image(0);
        y.forget(0);
        y.forget(1);
        for (int i = 0; i < 3; i++) y.clue(AT, 1, 2);
        y.seen(1, 3);
        y.restore(0);
        due("all kinds of CLUES", y.fits(-1) * 100 + y.fits(0) * 10 + y.fits(1), 112);
        y.eggs(3);
        y.clue(AHEAD, 2, 1);
        y.seen(0, 3);
        y.image(0);
        sentence("an IMAGE does not change by what comes behind it");
        y.eggs(1);
        y.restore(0);
        due("EGGS", y.told(1), 3);
        y.egg(0, NEED, 8);
        y.restore(0);
        due("NEED", y.told(20), 3);
        sentence("the images are two; each is kept anew");
        y.eggs(2);
        due("image(1)", y.image(1), 1);
        due("restore(0)", y.restore(0), 1);
        due("three", y.told(1), 3);
        due("restore(1)", y.restore(1), 1);
        due("two", y.told(1), 2);
        y.eggs(6);
        due("image(1) anew", y.image(1), 1);
        y.eggs(1);
        due("restore(1)", y.restore(1), 1);
        due("six", y.told(1), 6);
        tellings();
    }

    private static void tellings() {
        sentence("told: an EGG at a place of the ORDER, facts of an EGG: of n EGGS");
        for (int n = 1; n <= 7; n++) {
            EggOrder x = coop(n);
            due("the last place of " + n, x.told(9 + n), n - 1);
            due("a place more", x.told(10 + n), OUTSIDE);
            due("the last EGG's NEED", x.told(10 * (n + 1)), 3);
            due("whether it is whole", x.told(10 * (n + 1) + 4), 0);
            due("a fact more", x.told(10 * (n + 1) + 5), OUTSIDE);
            due("an EGG more", x.told(10 * (n + 2)), OUTSIDE);
        }
        sentence("told: OUTSIDE");
        EggOrder x = coop(7);
        int[] outside = {LEAST, -100, -1, 5, 6, 7, 8, 9, 17, 18, 19, 25, 26, 27, 28, 29, 85, 89, 90, 91, 100, MOST};
        for (int what : outside) due("told(" + what + ")", x.told(what), OUTSIDE);
        sentence("told: 4 whole, hatched, eaten");
        act(x, "5!6!6+");
        due("whole", x.told(64), 0);
        due("eaten", x.told(74), 2);
        due("mended", x.told(84), 1);
    }
}
