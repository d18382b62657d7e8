import java.lang.reflect.Modifier;

/** For each promise of ../shared/DOC.md: ordinary inputs, the edges that it names, wrong inputs. */
public final class PromiseTests {
    private static final int A = 0, B = 1, C = 2, F = 5;
    private static final int NEED = 0, WARMTH = 1, WORTH = 2, HOUSE = 3;

    private static int wrong = 0;
    private static int promise = 0;

    public static void main(String[] args) {
        constants();
        newObject();
        eggs();
        egg();
        stove();
        say();
        wipe();
        faultOfOrder();
        faultOfWeek();
        order();
        judge();
        judgeWhy();
        behind();
        hours();
        hatched();
        stops();
        done();
        state();
        clue();
        seen();
        forget();
        fits();
        fitsBySights();
        places();
        firsts();
        certain();
        ask();
        mend();
        soonest();
        rests();
        restsInOrder();
        shapley();
        hope();
        year();
        image();
        restore();
        told();
        System.out.println(wrong == 0 ? "all promises hold" : wrong + " answers are not as due");
        if (wrong != 0) System.exit(1);
    }

    private static void due(String call, long got, long want) {
        if (got == want) return;
        wrong++;
        System.out.println("promise " + promise + ": " + call + " answered " + got + ", due is " + want);
    }

    private static void dueRow(String call, long[] got, long... want) {
        for (int i = 0; i < want.length; i++) due(call + ", place " + i, got[i], want[i]);
    }

    private static EggOrder coop(int n) {
        EggOrder x = new EggOrder();
        x.eggs(n);
        return x;
    }

    private static void say(EggOrder x, String text) {
        for (int i = 0; i < text.length(); i++) x.say(text.charAt(i));
    }

    private static void sayAnew(EggOrder x, String text) {
        x.wipe();
        say(x, text);
    }

    private static void lay(EggOrder x, String order) {
        sayAnew(x, order);
        x.order();
    }

    private static void act(EggOrder x, String week) {
        sayAnew(x, week);
        x.done();
    }

    private static long fault(int n, int how, String text) {
        EggOrder x = coop(n);
        say(x, text);
        return x.fault(how);
    }

    private static void constants() {
        due("UNKNOWN", EggOrder.UNKNOWN, -1);
        due("OUTSIDE", EggOrder.OUTSIDE, -2);
        due("STATE", EggOrder.STATE, -3);
        due("FULL", EggOrder.FULL, -4);
        due("NO", EggOrder.NO, -5);
        due("NONE", EggOrder.NONE, -6);
        due("GONE", EggOrder.GONE, -1000000000000000000L);
        due("the class is public and final", EggOrder.class.getModifiers(), Modifier.PUBLIC | Modifier.FINAL);
        due("public methods", publicMethods(), 30);
        due("public constructors", EggOrder.class.getConstructors().length, 1);
        due("public constants", EggOrder.class.getFields().length, 7);
    }

    private static int publicMethods() {
        int count = 0;
        for (var method : EggOrder.class.getDeclaredMethods()) {
            if (Modifier.isPublic(method.getModifiers())) count++;
        }
        return count;
    }

    private static void newObject() {
        promise = 1;
        EggOrder x = new EggOrder();
        due("told(1)", x.told(1), 4);
        for (int egg = 0; egg < 4; egg++) {
            due("ORDER at " + egg, x.told(10 + egg), egg);
            due("NEED of " + egg, x.told(20 + 10 * egg), 3);
            due("WARMTH of " + egg, x.told(21 + 10 * egg), 0);
            due("WORTH of " + egg, x.told(22 + 10 * egg), 1);
            due("HOUSE of " + egg, x.told(23 + 10 * egg), egg);
            due("whole " + egg, x.told(24 + 10 * egg), 0);
        }
        due("EGG 4", x.told(60), -2);
        due("signs", x.told(0), 0);
        due("STOVES", x.told(2), 0);
        due("CLUES", x.told(3), 0);
        due("SIGHTS", x.told(4), 0);
        due("restore(0)", x.restore(0), -3);
    }

    private static void eggs() {
        promise = 2;
        EggOrder x = new EggOrder();
        due("eggs(7)", x.eggs(7), 4);
        due("HOUSE of EGG 6", x.told(83), A);
        due("HOUSE of EGG 5", x.told(73), F);
        due("eggs(0)", x.eggs(0), -2);
        due("eggs(8)", x.eggs(8), -2);
        due("eggs(-1)", x.eggs(-1), -2);
        due("told(1)", x.told(1), 7);
        lay(x, "6543210");
        x.egg(0, NEED, 9);
        x.egg(0, WARMTH, 9);
        x.egg(0, WORTH, 99);
        x.egg(0, HOUSE, F);
        x.stove(C, true);
        x.clue(2, 6, 6);
        x.seen(0, 0);
        act(x, "3!");
        say(x, "..");
        due("eggs(7) again", x.eggs(7), 7);
        due("ORDER", x.told(10), 0);
        due("NEED", x.told(20), 3);
        due("WARMTH", x.told(21), 0);
        due("WORTH", x.told(22), 1);
        due("HOUSE", x.told(23), A);
        due("whole", x.told(54), 0);
        due("STOVES", x.told(2), 0);
        due("CLUES", x.told(3), 0);
        due("SIGHTS", x.told(4), 0);
        due("signs stay", x.told(0), 2);
        due("eggs(1)", x.eggs(1), 7);
        due("state(1, 0)", x.state(1, 0), -1);
    }

    private static void egg() {
        promise = 3;
        EggOrder x = new EggOrder();
        due("NEED", x.egg(0, NEED, 9), 3);
        due("NEED was", x.egg(0, NEED, 1), 9);
        due("WARMTH", x.egg(1, WARMTH, 9), 0);
        due("WARMTH was", x.egg(1, WARMTH, 0), 9);
        due("WORTH", x.egg(2, WORTH, 99), 1);
        due("WORTH was", x.egg(2, WORTH, 0), 99);
        due("HOUSE", x.egg(3, HOUSE, F), 3);
        due("HOUSE was", x.egg(3, HOUSE, A), F);
        due("no EGG 4", x.egg(4, NEED, 1), -1);
        due("no EGG -1", x.egg(-1, 9, 99), -1);
        due("what 4", x.egg(0, 4, 1), -2);
        due("what -1", x.egg(0, -1, 1), -2);
        due("NEED 0", x.egg(0, NEED, 0), -2);
        due("NEED 10", x.egg(0, NEED, 10), -2);
        due("WARMTH -1", x.egg(0, WARMTH, -1), -2);
        due("WARMTH 10", x.egg(0, WARMTH, 10), -2);
        due("WORTH -1", x.egg(0, WORTH, -1), -2);
        due("WORTH 100", x.egg(0, WORTH, 100), -2);
        due("HOUSE -1", x.egg(0, HOUSE, -1), -2);
        due("HOUSE 6", x.egg(0, HOUSE, 6), -2);
        due("nothing changed", x.told(20) * 1000 + x.told(21) * 100 + x.told(22) * 10 + x.told(23), 1010);
        act(x, "0!1!1+");
        due("WARMTH of an eaten one", x.egg(0, WARMTH, 5), -3);
        due("WARMTH of a hatched one", x.egg(1, WARMTH, 5), -3);
        due("OUTSIDE first", x.egg(1, WARMTH, 10), -2);
        due("NEED of an eaten one", x.egg(0, NEED, 5), 1);
        due("WORTH of a hatched one", x.egg(1, WORTH, 5), 1);
        due("HOUSE of an eaten one", x.egg(0, HOUSE, 5), 0);
    }

    private static void stove() {
        promise = 4;
        EggOrder x = new EggOrder();
        due("A on", x.stove(A, true), 1);
        due("A on again", x.stove(A, true), 1);
        due("F on", x.stove(F, true), 33);
        due("A off", x.stove(A, false), 32);
        due("B off", x.stove(B, false), 32);
        due("HOUSE 6", x.stove(6, true), -1);
        due("HOUSE -1", x.stove(-1, false), -1);
        due("told(2)", x.told(2), 32);
    }

    private static void say() {
        promise = 5;
        EggOrder x = new EggOrder();
        due("32", x.say(32), -2);
        due("127", x.say(127), -2);
        due("-1", x.say(-1), -2);
        due("33", x.say(33), 1);
        due("126", x.say(126), 2);
        for (int i = 3; i <= 60; i++) due("sign " + i, x.say('.'), i);
        due("61st", x.say('.'), -4);
        due("61st, none", x.say(0), -2);
        due("told(0)", x.told(0), 60);
    }

    private static void wipe() {
        promise = 6;
        EggOrder x = new EggOrder();
        due("nothing", x.wipe(), 0);
        say(x, "A..");
        due("three", x.wipe(), 3);
        due("told(0)", x.told(0), 0);
        due("again", x.wipe(), 0);
        say(x, "0");
        due("anew", x.fault(1), 1);
    }

    private static void faultOfOrder() {
        promise = 7;
        due("how 2", fault(4, 2, ""), -2);
        due("how -1", fault(4, -1, ""), -2);
        due("empty", fault(4, 0, ""), 0);
        due("short", fault(4, 0, "31"), 2);
        due("whole", fault(4, 0, "3102"), -6);
        due("too long", fault(4, 0, "31020"), 4);
        due("two of one", fault(4, 0, "3132"), 2);
        due("no such EGG", fault(4, 0, "34"), 1);
        due("a house", fault(4, 0, "3A"), 1);
        due("an hour", fault(4, 0, "."), 0);
        due("seven", fault(7, 0, "6543210"), -6);
        due("one", fault(1, 0, "0"), -6);
        due("one, none", fault(1, 0, "1"), 0);
        due("a sign under 0", fault(4, 0, "/"), 0);
    }

    private static void faultOfWeek() {
        due("empty", fault(4, 1, ""), -6);
        due("all kinds", fault(4, 1, "A.F0F0!0+"), -6);
        due("only a digit", fault(4, 1, ".3"), 2);
        due("no such EGG", fault(4, 1, "A4A"), 1);
        due("no such HOUSE", fault(4, 1, "AG"), 1);
        due("carried nowhere", fault(4, 1, ".0G"), 2);
        due("a digit twice", fault(4, 1, ".00"), 2);
        due("a digit, an hour", fault(4, 1, "0."), 1);
        due("small letter", fault(4, 1, "a"), 0);
        due("eaten alone", fault(4, 1, "0A!"), 2);
        due("mended alone", fault(4, 1, "+"), 0);
        due("first of two", fault(4, 1, ".G.G"), 1);
        due("EGG 6 of 7", fault(7, 1, "6A"), -6);
        due("EGG 7 of 7", fault(7, 1, "7A"), 0);
        due("a sign ahead of A", fault(4, 1, "@"), 0);
    }

    private static void order() {
        promise = 8;
        EggOrder x = new EggOrder();
        due("empty", x.order(), -5);
        say(x, "321");
        due("short", x.order(), -5);
        due("signs stay", x.told(0), 3);
        say(x, "0");
        due("whole", x.order(), 1);
        due("signs go", x.told(0), 0);
        dueRow("ORDER", new long[] {x.told(10), x.told(11), x.told(12), x.told(13)}, 3, 2, 1, 0);
        act(x, "2!");
        say(x, "0123");
        due("eaten", x.order(), -3);
        due("signs stay", x.told(0), 4);
        say(x, "3");
        due("NO first", x.order(), -5);
        act(x, "2+");
        say(x, "0123");
        due("mended", x.order(), -3);
        due("ORDER stays", x.told(10), 3);
    }

    private static void judge() {
        promise = 9;
        EggOrder x = coop(2);
        due("what -1", x.judge(-1), -2);
        due("what 4", x.judge(4), -2);
        due("empty 0", x.judge(0), -6);
        due("empty 1", x.judge(1), -6);
        due("empty 2", x.judge(2), 0);
        due("empty 3", x.judge(3), 0);
        say(x, "AB..");
        due("two hours", x.judge(2), 2);
        due("none hatches", x.judge(3), 0);
        say(x, ".");
        due("both hatch", x.judge(3), 2);
        due("all can be", x.judge(0), -6);
        say(x, "0");
        due("a FAULT", x.judge(0), -5);
        due("a FAULT, OUTSIDE first", x.judge(5), -2);
        say(x, "A..");
        due("the ACT", x.judge(0), 5);
        due("why", x.judge(1), 1);
        due("HOURS", x.judge(2), -3);
        due("hatch", x.judge(3), -3);
        due("nothing is so", x.told(24), 0);
        due("signs stay", x.told(0), 9);
    }

    private static long[] whereAndWhy(EggOrder x, String week) {
        sayAnew(x, week);
        return new long[] {x.judge(0), x.judge(1)};
    }

    private static void judgeWhy() {
        EggOrder x = coop(3);
        dueRow("eaten, carried", whereAndWhy(x, "0!0A"), 1, 2);
        dueRow("eaten, eaten", whereAndWhy(x, ".0!0!"), 2, 2);
        dueRow("whole, mended", whereAndWhy(x, "A2+"), 1, 3);
        dueRow("mended, mended", whereAndWhy(x, "1!1+1+"), 2, 1);
        dueRow("mended, carried", whereAndWhy(x, "1!1+1B"), 2, 1);
        dueRow("mended, eaten", whereAndWhy(x, "1!1+1!"), 2, 1);
        dueRow("the first of two", whereAndWhy(x, "0!0!1+"), 1, 2);
        dueRow("carried where it is", whereAndWhy(x, "0A0A"), -6, -6);
        x.egg(0, NEED, 1);
        dueRow("hatched, mended", whereAndWhy(x, "A.0+"), 2, 1);
        dueRow("hatched, eaten", whereAndWhy(x, "A.0!"), 2, 1);
        sayAnew(x, "1!1+A.");
        due("a mended one does not hatch", x.judge(3), 1);
    }

    private static void behind() {
        promise = 10;
        EggOrder x = coop(3);
        say(x, "A...1!2C2A..");
        due("UNKNOWN", x.behind(3, 0), -1);
        due("UNKNOWN first", x.behind(-1, 7), -1);
        due("what 3", x.behind(0, 3), -2);
        due("what -1", x.behind(0, -1), -2);
        due("WARMTH of a hatched one stays", x.behind(0, 0), 3);
        due("hatched", x.behind(0, 2), 1);
        due("eaten", x.behind(1, 2), 2);
        due("WARMTH", x.behind(2, 0), 2);
        due("HOUSE", x.behind(2, 1), A);
        due("whole", x.behind(2, 2), 0);
        due("now", x.told(34), 0);
        say(x, "1A");
        due("STATE", x.behind(0, 0), -3);
        say(x, "1");
        due("NO", x.behind(0, 0), -5);
        due("OUTSIDE first", x.behind(0, 3), -2);
    }

    /** Of an HOUR: what is warmed, and what hatches. */
    private static void hours() {
        EggOrder x = coop(3);
        x.egg(0, NEED, 9);
        x.egg(0, WARMTH, 8);
        x.egg(2, WARMTH, 9);
        act(x, "AB.");
        due("9", x.told(21), 9);
        due("hatched", x.told(24), 1);
        due("STOVES", x.told(2), 3);
        due("warm but behind", x.told(44), 0);
        act(x, "B..");
        due("off", x.told(31), 1);
        act(x, "BC..");
        due("by dominoes", x.told(34) + 10 * x.told(44), 11);
        due("9 at most", x.told(41), 9);
        EggOrder y = coop(2);
        act(y, "0!AB...");
        due("an eaten one is not warmed", y.told(21), 0);
        due("an eaten one stops", y.told(34), 0);
        due("warm", y.told(31), 3);
        act(y, "0+");
        due("only in an HOUR", y.told(34), 0);
        act(y, ".");
        due("mended", y.told(34), 1);
    }

    private static void hatched() {
        promise = 11;
        EggOrder x = coop(4);
        due("UNKNOWN", x.hatched(4), -1);
        due("UNKNOWN", x.hatched(-1), -1);
        x.egg(0, NEED, 2);
        x.egg(1, NEED, 1);
        act(x, "A..A");
        sayAnew(x, "B..2!");
        EggOrder y = coop(1);
        say(y, "A...");
        due("EGG 0", y.hatched(0), 3);
        due("ahead", x.hatched(0), 0);
        due("HOUR 1", x.hatched(1), 1);
        due("eaten", x.hatched(2), -6);
        due("none", x.hatched(3), -6);
        say(x, "2+D...");
        due("mended", x.hatched(2), 0);
        due("HOUR 5", x.hatched(3), 5);
        say(x, "2+");
        due("STATE", x.hatched(0), -3);
        say(x, "2");
        due("NO", x.hatched(0), -5);
        due("UNKNOWN first", x.hatched(7), -1);
    }

    private static void stops() {
        promise = 12;
        EggOrder x = coop(4);
        lay(x, "2031");
        due("what 2", x.stops(2), -2);
        due("what -1", x.stops(-1), -2);
        x.egg(2, WARMTH, 3);
        due("the first stops", x.stops(0), 2);
        due("it is not in vain", x.stops(1), 0);
        say(x, "BD...");
        due("stops", x.stops(0), 0);
        due("in vain", x.stops(1), 10);
        say(x, "3!");
        due("an eaten one is not warm in vain", x.stops(1), 2);
        say(x, "A...");
        due("eaten stops", x.stops(0), 3);
        say(x, "3+.");
        due("none", x.stops(0), -6);
        due("none in vain", x.stops(1), 0);
        say(x, "3+");
        due("STATE", x.stops(0), -3);
        say(x, "9");
        due("NO", x.stops(1), -5);
    }

    private static void done() {
        promise = 13;
        EggOrder x = coop(2);
        due("empty", x.done(), 0);
        say(x, "0B1A1!AB...");
        due("ACTS", x.done(), 8);
        due("signs", x.told(0), 0);
        due("STOVES", x.told(2), 3);
        due("HOUSE 0", x.told(23), B);
        due("HOUSE 1", x.told(33), A);
        due("hatched", x.told(24), 1);
        due("eaten", x.told(34), 2);
        say(x, "A0!");
        due("STATE", x.done(), -3);
        due("nothing is so", x.told(2), 3);
        due("signs stay", x.told(0), 3);
        say(x, "x");
        due("NO", x.done(), -5);
        due("signs stay", x.told(0), 4);
    }

    private static void state() {
        promise = 14;
        EggOrder x = coop(2);
        say(x, "A.");
        due("as now", x.state(0, 0), 0);
        x.done();
        due("WARMTH", x.state(0, 0), 1);
        due("HOUSE", x.state(1, 1), B);
        due("whole", x.state(0, 2), 0);
        act(x, "1!..");
        due("hatched", x.state(0, 2), 1);
        due("eaten", x.state(1, 2), 2);
        due("UNKNOWN", x.state(2, 3), -1);
        due("UNKNOWN", x.state(-1, 0), -1);
        due("OUTSIDE", x.state(0, 3), -2);
        due("OUTSIDE", x.state(0, -1), -2);
        say(x, "?");
        due("a FAULT is nothing to it", x.state(0, 0), 3);
    }

    private static void clue() {
        promise = 15;
        EggOrder x = coop(3);
        due("kind 4", x.clue(4, 9, 9), -2);
        due("kind -1", x.clue(-1, 0, 1), -2);
        due("no EGG", x.clue(0, 3, 0), -1);
        due("no EGG, k", x.clue(2, -1, 9), -1);
        due("no second", x.clue(0, 0, 3), -1);
        due("no second", x.clue(1, 0, -1), -1);
        due("both are one", x.clue(1, 1, 1), -1);
        due("k 3", x.clue(2, 0, 3), -2);
        due("k -1", x.clue(3, 0, -1), -2);
        due("ahead", x.clue(0, 0, 1), 1);
        due("right ahead", x.clue(1, 0, 1), 2);
        due("at", x.clue(2, 0, 0), 3);
        due("not at, the same number", x.clue(3, 1, 1), 4);
        due("not at the last", x.clue(3, 0, 2), 5);
        for (int i = 6; i <= 12; i++) due("CLUE " + i, x.clue(0, 0, 1), i);
        due("FULL", x.clue(0, 0, 1), -4);
        due("OUTSIDE ahead of FULL", x.clue(3, 0, 3), -2);
        due("UNKNOWN ahead of FULL", x.clue(0, 0, 0), -1);
        due("told(3)", x.told(3), 12);
    }

    private static void seen() {
        promise = 16;
        EggOrder x = coop(3);
        due("UNKNOWN", x.seen(3, 61), -1);
        due("UNKNOWN", x.seen(-1, 0), -1);
        due("OUTSIDE", x.seen(0, 61), -2);
        due("OUTSIDE", x.seen(0, -1), -2);
        due("first", x.seen(0, 0), 1);
        due("60", x.seen(0, 60), 2);
        for (int i = 3; i <= 7; i++) due("SIGHT " + i, x.seen(2, i), i);
        due("FULL", x.seen(1, 1), -4);
        due("OUTSIDE ahead of FULL", x.seen(1, 61), -2);
        due("told(4)", x.told(4), 7);
    }

    private static void forget() {
        promise = 17;
        EggOrder x = coop(3);
        x.clue(0, 0, 1);
        x.clue(0, 1, 2);
        x.seen(0, 0);
        due("which 2", x.forget(2), -2);
        due("which -1", x.forget(-1), -2);
        due("SIGHTS", x.forget(1), 1);
        due("CLUES stay", x.told(3), 2);
        x.seen(0, 0);
        due("CLUES", x.forget(0), 2);
        due("SIGHTS stay", x.told(4), 1);
        due("none", x.forget(0), 0);
        due("fits again", x.fits(-1), 6);
    }

    private static void fits() {
        promise = 18;
        EggOrder x = coop(7);
        due("all", x.fits(-1), 5040);
        for (int place = 0; place < 7; place++) due("first " + place, x.fits(place), place);
        due("no place 7", x.fits(7), -6);
        due("no place -2", x.fits(-2), -6);
        x.clue(0, 6, 0);
        due("ahead", x.fits(-1), 2520);
        x.forget(0);
        x.clue(1, 6, 0);
        due("right ahead", x.fits(-1), 720);
        due("the first of them", x.fits(0) * 10 + x.fits(5), 16);
        x.forget(0);
        x.clue(2, 6, 0);
        due("at", x.fits(-1), 720);
        due("the first of them", x.fits(0), 6);
        x.forget(0);
        x.clue(3, 0, 0);
        due("not at", x.fits(-1), 4320);
        due("the first of them", x.fits(0), 1);
        x.clue(2, 0, 0);
        due("nothing", x.fits(-1), 0);
        due("nothing", x.fits(0), -6);
        x.forget(0);
        say(x, "!");
        act(x, "0!");
        say(x, "!");
        due("no SIGHTS, no refusal", x.fits(-1), 5040);
        EggOrder y = coop(3);
        y.clue(1, 0, 1);
        y.clue(1, 2, 1);
        due("two right ahead of one", y.fits(-1), 0);
        y.forget(0);
        y.clue(1, 0, 1);
        due("0 right ahead of 1", y.fits(-1), 2);
    }

    private static void fitsBySights() {
        EggOrder x = coop(3);
        x.egg(0, NEED, 1);
        x.egg(1, NEED, 2);
        x.egg(2, NEED, 3);
        sayAnew(x, "ABC...");
        x.seen(1, 3);
        due("behind 2", x.fits(-1), 3);
        due("the first", x.fits(0) * 100 + x.fits(1) * 10 + x.fits(2), 21);
        x.forget(1);
        x.seen(0, 1);
        due("0 is first", x.fits(-1), 2);
        sayAnew(x, "ABC...0B");
        due("carried when hatched", x.fits(-1), 0);
        sayAnew(x, "A.0B");
        due("carried right when hatched", x.fits(-1), 0);
        sayAnew(x, "ABC0B...");
        due("carried ahead", x.fits(-1), 2);
        sayAnew(x, "B0B.");
        due("warmed where it was carried", x.fits(-1), 2);
        sayAnew(x, "AB...");
        x.forget(1);
        x.seen(2, 0);
        due("2 hatches in none", x.fits(-1), 6);
        x.seen(0, 0);
        due("0 is behind 2", x.fits(-1), 3);
        x.seen(0, 1);
        due("two HOURS of one EGG", x.fits(-1), 0);
        x.forget(1);
        x.seen(0, 3);
        sayAnew(x, "A0");
        due("a FAULT", x.fits(-1), -5);
        say(x, "!");
        due("!", x.fits(0), -5);
        sayAnew(x, "0!0+");
        due("+", x.fits(0), -5);
        act(x, "1!");
        due("STATE", x.fits(-1), -3);
        say(x, "?");
        due("NO first", x.fits(-1), -5);
        x.forget(1);
        due("no SIGHTS", x.fits(-1), 6);
    }

    private static void places() {
        promise = 19;
        EggOrder x = coop(4);
        x.clue(0, 0, 1);
        x.clue(0, 1, 2);
        due("0", x.places(0), 3);
        due("1", x.places(1), 6);
        due("2", x.places(2), 12);
        due("3", x.places(3), 15);
        due("UNKNOWN", x.places(4), -1);
        due("UNKNOWN", x.places(-1), -1);
        x.clue(0, 2, 0);
        due("nothing", x.places(3), 0);
        x.seen(0, 0);
        say(x, "0");
        due("NO", x.places(3), -5);
        due("UNKNOWN first", x.places(4), -1);
        x.forget(1);
        act(x, "0!");
        x.seen(0, 0);
        due("STATE", x.places(3), -3);
    }

    private static void firsts() {
        promise = 20;
        EggOrder x = coop(4);
        due("all", x.firsts(), 15);
        x.clue(0, 0, 1);
        x.clue(3, 2, 0);
        due("two", x.firsts(), 9);
        x.clue(2, 3, 0);
        x.clue(2, 1, 2);
        due("by one order alone", x.firsts(), 8);
        x.clue(0, 1, 0);
        due("nothing", x.firsts(), 0);
        x.seen(0, 0);
        say(x, "0!");
        due("NO", x.firsts(), -5);
        act(x, "0!");
        due("STATE", x.firsts(), -3);
    }

    private static void certain() {
        promise = 21;
        EggOrder x = coop(4);
        x.clue(0, 2, 1);
        x.clue(0, 1, 0);
        due("ahead", x.certain(2, 0), 1);
        due("behind", x.certain(0, 2), 2);
        due("else", x.certain(3, 0), 0);
        due("else", x.certain(0, 3), 0);
        due("UNKNOWN", x.certain(4, 0), -1);
        due("UNKNOWN", x.certain(0, 4), -1);
        due("UNKNOWN", x.certain(-1, 0), -1);
        due("both are one", x.certain(1, 1), -1);
        x.clue(0, 0, 2);
        due("nothing", x.certain(2, 0), -6);
        EggOrder y = coop(3);
        y.clue(1, 0, 1);
        y.clue(3, 2, 2);
        due("a beginning that nothing ends", y.certain(2, 0), 1);
        x.seen(0, 0);
        say(x, "0!");
        due("NO", x.certain(2, 0), -5);
        act(x, "0!");
        due("STATE", x.certain(2, 0), -3);
        due("UNKNOWN first", x.certain(1, 1), -1);
    }

    private static void ask() {
        promise = 22;
        EggOrder x = coop(3);
        due("the least", x.ask(0), 0);
        due("how many", x.ask(1), 2);
        x.clue(0, 0, 1);
        due("2 of three places", x.ask(0), 2);
        due("one is left", x.ask(1), 1);
        x.clue(2, 2, 0);
        due("all the same", x.ask(0), 0);
        due("how many", x.ask(1), 1);
        EggOrder y = coop(3);
        y.clue(0, 1, 2);
        y.clue(3, 0, 2);
        due("0 and 1 ahead of 2", y.ask(0) * 10 + y.ask(1), 1);
        y.forget(0);
        y.clue(0, 2, 0);
        due("1 at three places", y.ask(0), 1);
        due("what 2", x.ask(2), -2);
        due("what -1", x.ask(-1), -2);
        x.clue(0, 1, 0);
        due("nothing", x.ask(0), -6);
        due("nothing", x.ask(1), -6);
        x.seen(0, 0);
        say(x, "0!");
        due("NO", x.ask(0), -5);
        act(x, "0!");
        due("STATE", x.ask(1), -3);
        due("OUTSIDE first", x.ask(2), -2);
    }

    private static void mend() {
        promise = 23;
        EggOrder x = coop(5);
        lay(x, "40312");
        due("none", x.mend(0) * 100 + x.mend(1), 0);
        act(x, "0!2!1!");
        due("one", x.mend(0), 1);
        due("which", x.mend(1), 1);
        act(x, "4!");
        due("two", x.mend(0), 2);
        due("which", x.mend(1), 17);
        act(x, "3!");
        due("none is whole", x.mend(0), 0);
        due("which", x.mend(1), 0);
        EggOrder y = coop(2);
        act(y, "0!");
        due("only the last is whole", y.mend(1), 1);
        due("what 2", x.mend(2), -2);
        due("what -1", x.mend(-1), -2);
    }

    private static void soonest() {
        promise = 24;
        EggOrder x = coop(4);
        due("c 0", x.soonest(0), -2);
        due("c 7", x.soonest(7), -2);
        due("c 1", x.soonest(1), 12);
        due("c 2", x.soonest(2), 6);
        due("c 3", x.soonest(3), 4);
        due("c 4", x.soonest(4), 3);
        due("c 6", x.soonest(6), 3);
        x.egg(0, NEED, 9);
        x.egg(0, WARMTH, 1);
        due("the longest", x.soonest(3), 8);
        x.egg(1, HOUSE, A);
        due("two in one HOUSE", x.soonest(1), 14);
        x.egg(2, WARMTH, 9);
        due("warm enough", x.soonest(1), 11);
        act(x, "0!");
        due("eaten", x.soonest(1), 6);
        act(x, "1!2!3!");
        due("none is whole", x.soonest(1), 0);
    }

    private static void rests() {
        promise = 25;
        EggOrder x = coop(2);
        due("COST 100", x.rests(100, -1), -2);
        due("COST -1", x.rests(-1, 0), -2);
        due("COST 99", x.rests(99, -1), 1);
        due("none heats", x.rests(99, 0), 0);
        due("i 1", x.rests(99, 1), -6);
        due("i -2", x.rests(99, -2), -6);
        due("COST 0", x.rests(0, -1), 1);
        due("both", x.rests(0, 0), 3);
        due("COST 1", x.rests(1, -1), 3);
        x.egg(0, WARMTH, 3);
        due("0 is warm: heating is in vain", x.rests(1, 0), 0);
        due("1 does not mind", x.rests(1, 1), 2);
        due("two", x.rests(1, -1), 2);
        due("COST 0, warm", x.rests(0, -1), 2);
        act(x, "0!");
        due("an eaten one stops it", x.rests(1, -1), 1);
        due("none heats", x.rests(1, 0), 0);
        due("COST 0: it does not mind", x.rests(0, 1), 2);
        act(x, "0+");
        due("mended", x.rests(0, 0), 2);
        act(x, "1!");
        due("no HOUSE", x.rests(0, -1), 1);
        due("no HOUSE", x.rests(0, 0), 0);
    }

    private static void restsInOrder() {
        EggOrder x = coop(3);
        lay(x, "210");
        x.egg(0, WORTH, 0);
        x.egg(1, WORTH, 9);
        x.egg(2, WORTH, 5);
        due("1 heats behind 2", x.rests(4, -1), 1);
        due("1 and 2", x.rests(4, 0), 6);
        due("only 1 would", x.rests(6, 0), 0);
        due("one", x.rests(6, -1), 1);
        x.egg(0, HOUSE, C);
        due("HOUSE C has two", x.rests(5, -1), 2);
        due("none", x.rests(5, 0), 0);
        due("B and C", x.rests(5, 1), 6);
    }

    private static void dueFraction(String call, long upper, long lower, long wantUpper, long wantLower) {
        due(call + ", upper", upper, wantUpper);
        due(call + ", lower", lower, wantLower);
    }

    private static void shapley() {
        promise = 26;
        EggOrder x = coop(2);
        dueFraction("0", x.shapley(A, 0), x.shapley(A, 1), 3, 2);
        dueFraction("1", x.shapley(B, 0), x.shapley(B, 1), 1, 2);
        dueFraction("nobody", x.shapley(F, 0), x.shapley(F, 1), 0, 1);
        x.egg(0, WORTH, 99);
        x.egg(1, WORTH, 98);
        dueFraction("worth", x.shapley(A, 0), x.shapley(A, 1), 148, 1);
        x.egg(0, WARMTH, 3);
        dueFraction("hatches if none heats", x.shapley(A, 0), x.shapley(A, 1), 0, 1);
        dueFraction("98", x.shapley(B, 0), x.shapley(B, 1), 98, 1);
        act(x, "0!");
        dueFraction("an eaten one stops it", x.shapley(B, 0), x.shapley(B, 1), 0, 1);
        due("UNKNOWN", x.shapley(6, 0), -1000000000000000001L);
        due("UNKNOWN first", x.shapley(-1, 2), -1000000000000000001L);
        due("OUTSIDE", x.shapley(0, 2), -1000000000000000002L);
        due("OUTSIDE", x.shapley(0, -1), -1000000000000000002L);
    }

    private static void hope() {
        promise = 27;
        EggOrder x = coop(3);
        dueFraction("mean, 5", x.hope(5, 0, 0), x.hope(5, 0, 1), 7, 8);
        dueFraction("all, 5", x.hope(5, 1, 0), x.hope(5, 1, 1), 1, 8);
        dueFraction("mean, 0", x.hope(0, 0, 0), x.hope(0, 0, 1), 3, 1);
        dueFraction("all, 0", x.hope(0, 1, 0), x.hope(0, 1, 1), 1, 1);
        dueFraction("mean, 10", x.hope(10, 0, 0), x.hope(10, 0, 1), 0, 1);
        dueFraction("all, 10", x.hope(10, 1, 0), x.hope(10, 1, 1), 0, 1);
        dueFraction("all, 1", x.hope(1, 1, 0), x.hope(1, 1, 1), 729, 1000);
        act(x, "1!");
        dueFraction("mean, one eaten", x.hope(1, 0, 0), x.hope(1, 0, 1), 9, 10);
        dueFraction("all, one eaten", x.hope(1, 1, 0), x.hope(1, 1, 1), 0, 1);
        act(x, "1+2!");
        dueFraction("eaten at the end", x.hope(1, 1, 0), x.hope(1, 1, 1), 9, 10);
        act(x, "0!");
        dueFraction("mean, none whole", x.hope(1, 0, 0), x.hope(1, 0, 1), 0, 1);
        dueFraction("all, none whole", x.hope(1, 1, 0), x.hope(1, 1, 1), 1, 1);
        due("t 11", x.hope(11, 0, 0), -1000000000000000002L);
        due("t -1", x.hope(-1, 0, 0), -1000000000000000002L);
        due("what 2", x.hope(1, 2, 0), -1000000000000000002L);
        due("what -1", x.hope(1, -1, 0), -1000000000000000002L);
        due("part 2", x.hope(1, 0, 2), -1000000000000000002L);
        due("part -1", x.hope(1, 0, -1), -1000000000000000002L);
    }

    private static void year() {
        promise = 28;
        EggOrder x = coop(1);
        // By seed 0 x is 74, 5624, 28652, 51790: STOVES C, C, C, E.
        due("STOVES", x.year(0, 1, 2), 1);
        due("on, off, on", x.year(0, 3, 2), 2);
        due("C, none, C, C and E", x.year(0, 4, 2), 4);
        due("A is off", x.year(0, 4, 0), 0);
        due("no HOUR", x.year(0, 4, 1), 0);
        x.egg(0, HOUSE, C);
        due("two HOURS of C", x.year(0, 3, 0), 0);
        due("three HOURS of C", x.year(0, 4, 0), 1);
        x.egg(0, NEED, 2);
        due("HOURS 1 and 3", x.year(0, 3, 0), 1);
        due("the last HOUR", x.year(0, 10, 1), 3);
        due("not yet", x.year(0, 2, 1), 0);
        x.stove(C, true);
        due("turned off at first", x.year(0, 1, 2), 0);
        due("from all as it is", x.year(0, 2, 2), 1);
        due("nothing is so", x.told(24) + x.told(21), 0);
        due("STOVES stay", x.told(2), 4);
        due("seed 10000", x.year(10000, 1, 0), -2);
        due("seed -1", x.year(-1, 1, 0), -2);
        due("m 0", x.year(0, 0, 0), -2);
        due("m 100", x.year(0, 100, 0), -2);
        due("what 3", x.year(0, 1, 3), -2);
        due("what -1", x.year(0, 1, -1), -2);
        due("seed 9999, m 99", x.year(9999, 99, 0), 1);
    }

    private static void image() {
        promise = 29;
        EggOrder x = coop(2);
        due("k 2", x.image(2), -2);
        due("k -1", x.image(-1), -2);
        due("k 0", x.image(0), 1);
        x.egg(0, NEED, 7);
        due("k 1", x.image(1), 1);
        x.restore(0);
        due("of 0", x.told(20), 3);
        x.restore(1);
        due("of 1", x.told(20), 7);
        x.egg(0, NEED, 8);
        due("kept anew", x.image(0), 1);
        x.egg(0, NEED, 9);
        x.restore(0);
        due("of 0 anew", x.told(20), 8);
    }

    private static void restore() {
        promise = 30;
        EggOrder x = coop(3);
        due("k 2", x.restore(2), -2);
        due("k -1", x.restore(-1), -2);
        due("not kept", x.restore(1), -3);
        lay(x, "210");
        x.stove(B, true);
        x.clue(0, 0, 1);
        x.seen(2, 1);
        act(x, "2!");
        x.egg(1, WORTH, 42);
        say(x, "..");
        x.image(1);
        x.eggs(7);
        x.stove(F, true);
        say(x, ".");
        due("k 1", x.restore(1), 1);
        due("signs are as now", x.told(0), 3);
        due("EGGS", x.told(1), 3);
        due("STOVES", x.told(2), 2);
        due("CLUES", x.told(3), 1);
        due("SIGHTS", x.told(4), 1);
        due("ORDER", x.told(10), 2);
        due("eaten", x.told(44), 2);
        due("WORTH", x.told(32), 42);
        x.egg(1, WORTH, 1);
        x.forget(0);
        due("again", x.restore(1), 1);
        due("WORTH again", x.told(32), 42);
        due("CLUES again", x.told(3), 1);
        due("still not kept", x.restore(0), -3);
    }

    private static void told() {
        promise = 31;
        EggOrder x = coop(2);
        lay(x, "10");
        x.egg(1, NEED, 4);
        x.egg(1, WARMTH, 2);
        x.egg(1, WORTH, 7);
        x.egg(1, HOUSE, F);
        x.stove(C, true);
        x.clue(0, 0, 1);
        x.clue(0, 0, 1);
        x.seen(1, 1);
        say(x, "...");
        long[] first = {x.told(0), x.told(1), x.told(2), x.told(3), x.told(4), x.told(10), x.told(11)};
        dueRow("told", first, 3, 2, 4, 2, 1, 1, 0);
        long[] ofOne = {x.told(30), x.told(31), x.told(32), x.told(33), x.told(34)};
        dueRow("EGG 1", ofOne, 4, 2, 7, 5, 0);
        int[] outside = {-1, 5, 9, 12, 17, 19, 25, 29, 35, 40, 44, 90, -10, 1000};
        for (int what : outside) due("told(" + what + ")", x.told(what), -2);
        act(x, "0!");
        due("eaten", x.told(24), 2);
    }
}
