import java.math.BigInteger;
import java.util.ArrayList;
import java.util.Arrays;
import java.util.List;

/**
 * Long runs of calls on an object and on a model that was written from the document another way:
 * by trying all orders, sets and rows in full. The calls are drawn by a fixed rule of numbers.
 */
public final class ModelTests {
    private static final int RUNS = 600, CALLS = 512;
    private static final String[] NAMES = {"eggs", "egg", "stove", "say", "wipe", "fault", "order", "judge",
        "behind", "hatched", "stops", "done", "state", "clue", "seen", "forget", "fits", "places", "firsts",
        "certain", "ask", "mend", "soonest", "rests", "shapley", "hope", "year", "image", "restore", "told"};
    private static final int EGGS = 0, EGG = 1, SAY = 3, WIPE = 4, FAULT = 5, ORDER = 6, DONE = 11, CLUE = 13,
        SEEN = 14, FORGET = 15, FITS = 16, PLACES = 17, FIRSTS = 18, CERTAIN = 19, ASK = 20;
    private static final int[] ODD = {-1, -2, 6, 7, 8, 10, 11, 13, 61, 99, 100, 1 << 30, 32, 64,
        Integer.MIN_VALUE, Integer.MAX_VALUE, Integer.MIN_VALUE + 1, Integer.MAX_VALUE - 1};

    private static long seed = 20261119;
    private static int wrong = 0;

    private EggOrder real;
    private Model model;
    private int run;
    private int calls;
    /** The ORDER that most clues and sights tell of, so that something fits them. */
    private List<Integer> secret;

    public static void main(String[] args) {
        long made = 0;
        for (int run = 1; run <= RUNS; run++) made += new ModelTests().play(run);
        System.out.println(wrong == 0 ? made + " calls answer as the model does" : wrong + " calls do not");
        if (wrong != 0) System.exit(1);
    }

    private static int draw(int below) {
        seed = seed * 6364136223846793005L + 1442695040888963407L;
        return (int) ((seed >>> 33) % below);
    }

    private int play(int number) {
        run = number;
        real = new EggOrder();
        model = new Model();
        calls = 0;
        int most = number % 8 == 0 ? 7 : number % 4 == 0 ? 6 : 5;
        startAnew(most);
        while (calls < CALLS - 100 && wrong < 20) {
            int what = draw(60);
            if (what == 0) startAnew(most);
            else if (what < 5) sayWeek();
            else if (what < 9) watchWeek();
            else if (what < 11) sayOrder();
            else drawnCall(most);
        }
        return calls;
    }

    private void startAnew(int most) {
        call(EGGS, 1 + draw(most), 0, 0);
        secret = drawnRow();
        for (int egg = 0; egg < secret.size(); egg++) {
            if (draw(2) == 0) call(EGG, egg, 0, 1 + draw(4));
            if (draw(2) == 0) call(EGG, egg, 3, draw(3));
        }
    }

    private List<Integer> drawnRow() {
        List<Integer> row = new ArrayList<>();
        for (int egg = 0; egg < model.eggs.size(); egg++) row.add(draw(row.size() + 1), egg);
        return row;
    }

    private void call(int which, int a, int b, int c) {
        calls++;
        long got = answer(real, which, a, b, c);
        long want = model.answer(which, a, b, c);
        if (got == want) return;
        wrong++;
        System.out.println("run " + run + ", call " + calls + ": " + NAMES[which] + "(" + a + ", " + b + ", " + c
            + ") answered " + got + ", the model " + want);
    }

    private void sayWeek() {
        call(WIPE, 0, 0, 0);
        sayActs(draw(20), true);
        if (draw(2) == 0) call(DONE, 0, 0, 0);
    }

    private void sayActs(int acts, boolean withEaten) {
        int n = model.eggs.size();
        for (int i = 0; i < acts; i++) {
            int kind = draw(20);
            if (kind < 10) {
                call(SAY, '.', 0, 0);
            } else if (kind < 17) {
                call(SAY, 'A' + draw(draw(2) == 0 ? 3 : 6), 0, 0);
            } else {
                call(SAY, '0' + draw(n), 0, 0);
                call(SAY, !withEaten || draw(2) == 0 ? 'A' + draw(6) : draw(2) == 0 ? '!' : '+', 0, 0);
            }
        }
    }

    /** A WEEK is watched: what is seen is mostly as by the secret ORDER. */
    private void watchWeek() {
        int n = model.eggs.size();
        if (secret.size() != n || !model.allWhole()) return;
        call(WIPE, 0, 0, 0);
        call(FORGET, 1, 0, 0);
        sayActs(4 + draw(16), false);
        Tried t = model.tried(secret);
        for (int i = draw(4); i >= 0; i--) {
            int egg = draw(n);
            int hour = draw(8) == 0 ? draw(9) : Math.max(0, t.hatchHour[egg]);
            call(SEEN, egg, hour, 0);
        }
        for (int place = -1; place < n; place++) call(FITS, place, 0, 0);
        for (int egg = 0; egg < n; egg++) call(PLACES, egg, 0, 0);
        call(FIRSTS, 0, 0, 0);
        call(CERTAIN, draw(n), draw(n), 0);
        call(ASK, 0, 0, 0);
        call(ASK, 1, 0, 0);
        if (draw(3) > 0) call(FORGET, 1, 0, 0);
    }

    private void sayOrder() {
        call(WIPE, 0, 0, 0);
        List<Integer> row = drawnRow();
        if (draw(8) == 0) row.set(0, draw(8));
        for (int egg : row) call(SAY, '0' + egg, 0, 0);
        call(FAULT, 0, 0, 0);
        call(ORDER, 0, 0, 0);
    }

    private void drawnClue(int n) {
        int[] clue = {drawn(0, 3), drawn(0, n - 1), drawn(0, n - 1)};
        boolean isTrue = secret.size() != n || model.fitsClue(secret, clue);
        if (isTrue || draw(10) == 0) call(CLUE, clue[0], clue[1], clue[2]);
    }

    private int drawn(int least, int most) {
        return draw(25) == 0 ? ODD[draw(ODD.length)] : least + draw(most - least + 1);
    }

    private void drawnCall(int most) {
        int which = draw(NAMES.length);
        int n = model.eggs.size();
        switch (which) {
            case EGGS: if (draw(20) == 0) call(which, drawn(1, most), 0, 0); break;
            case EGG: drawnFact(n); break;
            case 2: call(which, drawn(0, 5), draw(2), 0); break;
            case SAY: call(which, draw(4) == 0 ? drawn(32, 127) : "0123456.ABCDEF!+".charAt(draw(16)), 0, 0); break;
            case FAULT: case 10: case ASK: case 21: case 27: case 28: call(which, drawn(0, 1), 0, 0); break;
            case 7: call(which, drawn(0, 3), 0, 0); break;
            case 8: case 12: call(which, drawn(0, n - 1), drawn(0, 2), 0); break;
            case 9: case PLACES: call(which, drawn(0, n - 1), 0, 0); break;
            case CLUE: drawnClue(n); break;
            case SEEN: if (draw(4) == 0) call(which, drawn(0, n - 1), drawn(0, 9), 0); break;
            case FORGET: call(which, drawn(0, 1), 0, 0); break;
            case FITS: call(which, drawn(-1, n), 0, 0); break;
            case CERTAIN: call(which, drawn(0, n - 1), drawn(0, n - 1), 0); break;
            case 22: call(which, drawn(1, 6), 0, 0); break;
            case 23: call(which, draw(2) == 0 ? drawn(0, 3) : drawn(0, 99), drawn(-2, 4), 0); break;
            case 24: call(which, drawn(0, 5), drawn(0, 1), 0); break;
            case 25: call(which, drawn(0, 10), drawn(0, 1), drawn(0, 1)); break;
            case 26: call(which, drawn(0, 9999), drawn(1, 99), drawn(0, 2)); break;
            case 29: call(which, draw(5) == 0 ? drawn(0, 10) : drawn(10, 20 + 10 * n), 0, 0); break;
            default: call(which, 0, 0, 0); break;
        }
    }

    private void drawnFact(int n) {
        int what = drawn(0, 3);
        int v = what == 2 ? drawn(0, 99) : what == 3 ? drawn(0, 5) : draw(2) == 0 ? drawn(0, 3) : drawn(0, 9);
        call(EGG, drawn(0, n - 1), what, v);
    }

    private static long answer(EggOrder x, int which, int a, int b, int c) {
        switch (which) {
            case 0: return x.eggs(a);
            case 1: return x.egg(a, b, c);
            case 2: return x.stove(a, b == 1);
            case 3: return x.say(a);
            case 4: return x.wipe();
            case 5: return x.fault(a);
            case 6: return x.order();
            case 7: return x.judge(a);
            case 8: return x.behind(a, b);
            case 9: return x.hatched(a);
            case 10: return x.stops(a);
            case 11: return x.done();
            case 12: return x.state(a, b);
            case 13: return x.clue(a, b, c);
            case 14: return x.seen(a, b);
            case 15: return x.forget(a);
            case 16: return x.fits(a);
            case 17: return x.places(a);
            case 18: return x.firsts();
            case 19: return x.certain(a, b);
            case 20: return x.ask(a);
            case 21: return x.mend(a);
            case 22: return x.soonest(a);
            case 23: return x.rests(a, b);
            case 24: return x.shapley(a, b);
            case 25: return x.hope(a, b, c);
            case 26: return x.year(a, b, c);
            case 27: return x.image(a);
            case 28: return x.restore(a);
            default: return x.told(a);
        }
    }

    private static final class Egg {
        int need = 3, warmth, worth = 1, house;
        boolean isHatched, isEaten;

        Egg(int house) {
            this.house = house;
        }

        Egg(Egg e) {
            need = e.need;
            warmth = e.warmth;
            worth = e.worth;
            house = e.house;
            isHatched = e.isHatched;
            isEaten = e.isEaten;
        }

        boolean isWhole() {
            return !isHatched && !isEaten;
        }

        int kind() {
            return isHatched ? 1 : isEaten ? 2 : 0;
        }
    }

    /** EGGS, ORDER and STOVES, and what an HOUR and an ACT do with them. */
    private static class World {
        List<Egg> eggs = new ArrayList<>();
        List<Integer> order = new ArrayList<>();
        boolean[] stoves = new boolean[6];

        World copy() {
            World w = new World();
            for (Egg e : eggs) w.eggs.add(new Egg(e));
            w.order = new ArrayList<>(order);
            w.stoves = stoves.clone();
            return w;
        }

        List<Integer> hour() {
            for (Egg e : eggs) {
                if (e.isWhole() && stoves[e.house]) e.warmth = Math.min(9, e.warmth + 1);
            }
            List<Integer> hatching = new ArrayList<>();
            for (int i : order) {
                Egg e = eggs.get(i);
                if (e.isHatched) continue;
                if (e.isEaten || e.warmth < e.need) break;
                e.isHatched = true;
                hatching.add(i);
            }
            return hatching;
        }

        int stoveBits() {
            int bits = 0;
            for (int h = 0; h < 6; h++) if (stoves[h]) bits += 1 << h;
            return bits;
        }

        boolean allWhole() {
            return eggs.stream().allMatch(Egg::isWhole);
        }

        /** What hatches when the EGGS of the houses of a set have been warmed as they need. */
        List<Integer> hatchIf(int set) {
            World w = copy();
            Arrays.fill(w.stoves, false);
            for (Egg e : w.eggs) if (e.isWhole() && (set >> e.house) % 2 == 1) e.warmth = Math.max(e.warmth, e.need);
            return w.hour();
        }
    }

    private static final class Tried {
        World world;
        int hours, hatches, firstBad = -6, why = -6;
        int[] hatchHour;
        List<String> acts;

        boolean canBe() {
            return firstBad == -6;
        }
    }

    private static final class Kept {
        World world;
        List<int[]> clues, sights;

        Kept(World w, List<int[]> c, List<int[]> s) {
            world = w.copy();
            clues = new ArrayList<>(c);
            sights = new ArrayList<>(s);
        }
    }

    private static final class Model extends World {
        String pad = "";
        List<int[]> clues = new ArrayList<>(), sights = new ArrayList<>();
        Kept[] images = new Kept[2];

        Model() {
            start(4);
        }

        void start(int n) {
            eggs.clear();
            order.clear();
            for (int i = 0; i < n; i++) {
                eggs.add(new Egg(i == 6 ? 0 : i));
                order.add(i);
            }
            stoves = new boolean[6];
            clues.clear();
            sights.clear();
        }

        boolean has(int egg) {
            return egg >= 0 && egg < eggs.size();
        }

        static boolean in(int v, int least, int most) {
            return least <= v && v <= most;
        }

        long answer(int which, int a, int b, int c) {
            int n = eggs.size();
            switch (which) {
                case 0: if (!in(a, 1, 7)) return -2; start(a); return n;
                case 1: return egg(a, b, c);
                case 2: if (!in(a, 0, 5)) return -1; stoves[a] = b == 1; return stoveBits();
                case 3:
                    if (!in(a, 33, 126)) return -2;
                    if (pad.length() == 60) return -4;
                    pad += (char) a;
                    return pad.length();
                case 4: int signs = pad.length(); pad = ""; return signs;
                case 5: return !in(a, 0, 1) ? -2 : fault(a);
                case 6: return order();
                case 7: case 8: case 9: case 10: case 11: return ofWeek(which, a, b);
                case 12: return !has(a) ? -1 : !in(b, 0, 2) ? -2 : about(eggs.get(a), b);
                case 13: return clue(a, b, c);
                case 14:
                    if (!has(a)) return -1;
                    if (!in(b, 0, 60)) return -2;
                    if (sights.size() == 7) return -4;
                    sights.add(new int[] {a, b});
                    return sights.size();
                case 15:
                    if (!in(a, 0, 1)) return -2;
                    List<int[]> gone = a == 0 ? clues : sights;
                    int count = gone.size();
                    gone.clear();
                    return count;
                case 16: case 17: case 18: case 19: case 20: return ofFits(which, a, b);
                case 21: return !in(a, 0, 1) ? -2 : mend(a);
                case 22: return !in(a, 1, 6) ? -2 : soonest(a);
                case 23: return !in(a, 0, 99) ? -2 : rests(a, b);
                case 24: return !in(a, 0, 5) ? EggOrder.GONE - 1 : !in(b, 0, 1) ? EggOrder.GONE - 2 : shapley(a, b);
                case 25: return !in(a, 0, 10) || !in(b, 0, 1) || !in(c, 0, 1) ? EggOrder.GONE - 2 : hope(a, b, c);
                case 26: return !in(a, 0, 9999) || !in(b, 1, 99) || !in(c, 0, 2) ? -2 : year(a, b, c);
                case 27: if (!in(a, 0, 1)) return -2; images[a] = new Kept(this, clues, sights); return 1;
                case 28: return restore(a);
                default: return told(a);
            }
        }

        int restore(int k) {
            if (!in(k, 0, 1)) return -2;
            if (images[k] == null) return -3;
            Kept copy = new Kept(images[k].world, images[k].clues, images[k].sights);
            eggs = copy.world.eggs;
            order = copy.world.order;
            stoves = copy.world.stoves;
            clues = copy.clues;
            sights = copy.sights;
            return 1;
        }

        int egg(int i, int what, int v) {
            int[] least = {1, 0, 0, 0}, most = {9, 9, 99, 5};
            if (!has(i)) return -1;
            if (!in(what, 0, 3) || !in(v, least[what], most[what])) return -2;
            Egg e = eggs.get(i);
            int[] was = {e.need, e.warmth, e.worth, e.house};
            if (what == 1 && !e.isWhole()) return -3;
            if (what == 0) e.need = v;
            if (what == 1) e.warmth = v;
            if (what == 2) e.worth = v;
            if (what == 3) e.house = v;
            return was[what];
        }

        int about(Egg e, int what) {
            return new int[] {e.warmth, e.house, e.kind()}[what];
        }

        /** The shortest beginning of the text that nothing can complete tells the place. */
        int fault(int how) {
            String digit = "[0-" + (eggs.size() - 1) + "]";
            String once = how == 0 ? "(?!.*(.).*\\1)" + digit + "{0," + eggs.size() + "}"
                : "([.A-F]|" + digit + "[A-F!+])*" + digit + "?";
            String whole = how == 0 ? "(?s)" + digit + "{" + eggs.size() + "}" : "([.A-F]|" + digit + "[A-F!+])*";
            for (int i = 1; i <= pad.length(); i++) {
                if (!pad.substring(0, i).matches(once)) return i - 1;
            }
            return pad.matches(whole) ? -6 : pad.length();
        }

        int order() {
            if (fault(0) != -6) return -5;
            if (!allWhole()) return -3;
            for (int i = 0; i < order.size(); i++) order.set(i, Character.digit(pad.charAt(i), 10));
            pad = "";
            return 1;
        }

        List<String> acts() {
            List<String> acts = new ArrayList<>();
            for (String rest = pad; !rest.isEmpty();) {
                int width = Character.isDigit(rest.charAt(0)) ? 2 : 1;
                acts.add(rest.substring(0, width));
                rest = rest.substring(width);
            }
            return acts;
        }

        Tried tried(List<Integer> row) {
            Tried t = new Tried();
            t.world = copy();
            t.world.order = row;
            t.acts = acts();
            t.hatchHour = new int[eggs.size()];
            for (int i = 0; i < eggs.size(); i++) t.hatchHour[i] = eggs.get(i).isHatched ? 0 : -6;
            for (int i = 0; i < t.acts.size() && t.canBe(); i++) {
                int why = act(t, t.acts.get(i));
                if (why == 0) continue;
                t.firstBad = i;
                t.why = why;
            }
            return t;
        }

        int act(Tried t, String act) {
            if (act.equals(".")) {
                t.hours++;
                for (int i : t.world.hour()) {
                    t.hatches++;
                    t.hatchHour[i] = t.hours;
                }
                return 0;
            }
            if (act.length() == 1) {
                t.world.stoves[act.charAt(0) - 'A'] ^= true;
                return 0;
            }
            int i = act.charAt(0) - '0';
            Egg e = t.world.eggs.get(i);
            char does = act.charAt(1);
            if (e.isHatched) return 1;
            if (e.isEaten && does != '+') return 2;
            if (e.isWhole() && does == '+') return 3;
            if (does == '+') {
                e.isHatched = true;
                t.hatchHour[i] = 0;
            } else if (does == '!') {
                e.isEaten = true;
            } else {
                e.house = does - 'A';
            }
            return 0;
        }

        int ofWeek(int which, int a, int b) {
            if (which == 7 && !in(a, 0, 3)) return -2;
            if ((which == 8 || which == 9) && !has(a)) return -1;
            if (which == 8 && !in(b, 0, 2)) return -2;
            if (which == 10 && !in(a, 0, 1)) return -2;
            if (fault(1) != -6) return -5;
            Tried t = tried(order);
            if (which == 7 && a == 0) return t.firstBad;
            if (which == 7 && a == 1) return t.why;
            if (!t.canBe()) return -3;
            if (which == 7) return a == 2 ? t.hours : t.hatches;
            if (which == 8) return about(t.world.eggs.get(a), b);
            if (which == 9) return t.hatchHour[a];
            if (which == 10) return stops(t.world, a);
            eggs = t.world.eggs;
            stoves = t.world.stoves;
            pad = "";
            return t.acts.size();
        }

        int stops(World w, int what) {
            List<Integer> rest = new ArrayList<>(w.order);
            while (!rest.isEmpty() && w.eggs.get(rest.get(0)).isHatched) rest.remove(0);
            if (what == 0) return rest.isEmpty() ? -6 : rest.get(0);
            int bits = 0;
            for (int i = 1; i < rest.size(); i++) {
                Egg e = w.eggs.get(rest.get(i));
                if (e.isWhole() && e.warmth >= e.need) bits += 1 << rest.get(i);
            }
            return bits;
        }

        int clue(int kind, int egg, int other) {
            if (!in(kind, 0, 3)) return -2;
            if (!has(egg)) return -1;
            if (kind < 2 && (!has(other) || other == egg)) return -1;
            if (kind >= 2 && !in(other, 0, eggs.size() - 1)) return -2;
            if (clues.size() == 12) return -4;
            clues.add(new int[] {kind, egg, other});
            return clues.size();
        }

        void allRows(List<Integer> begun, List<List<Integer>> rows, int n) {
            if (begun.size() == n) {
                rows.add(new ArrayList<>(begun));
                return;
            }
            for (int i = 0; i < n; i++) {
                if (begun.contains(i)) continue;
                begun.add(i);
                allRows(begun, rows, n);
                begun.remove(begun.size() - 1);
            }
        }

        boolean fitsClue(List<Integer> row, int[] clue) {
            int place = row.indexOf(clue[1]), other = row.indexOf(clue[2]);
            switch (clue[0]) {
                case 0: return place < other;
                case 1: return place + 1 == other;
                case 2: return place == clue[2];
                default: return place != clue[2];
            }
        }

        boolean fitsSights(List<Integer> row) {
            if (sights.isEmpty()) return true;
            Tried t = tried(row);
            if (!t.canBe()) return false;
            for (int[] s : sights) if (t.hatchHour[s[0]] != (s[1] == 0 ? -6 : s[1])) return false;
            return true;
        }

        int ofFits(int which, int a, int b) {
            int n = eggs.size();
            if (which == 17 && !has(a)) return -1;
            if (which == 19 && (!has(a) || !has(b) || a == b)) return -1;
            if (which == 20 && !in(a, 0, 1)) return -2;
            if (!sights.isEmpty() && (fault(1) != -6 || pad.matches(".*[!+].*"))) return -5;
            if (!sights.isEmpty() && !allWhole()) return -3;
            List<List<Integer>> rows = new ArrayList<>();
            allRows(new ArrayList<>(), rows, n);
            rows.removeIf(row -> !clues.stream().allMatch(clue -> fitsClue(row, clue)) || !fitsSights(row));
            if (which == 16) return a == -1 ? rows.size() : rows.isEmpty() || !in(a, 0, n - 1) ? -6 : rows.get(0).get(a);
            if (which == 17) return rows.stream().mapToInt(row -> 1 << row.indexOf(a)).reduce(0, (x, y) -> x | y);
            if (which == 18) return rows.stream().mapToInt(row -> 1 << row.get(0)).reduce(0, (x, y) -> x | y);
            if (rows.isEmpty()) return -6;
            if (which == 20) return ask(rows, a);
            long ahead = rows.stream().filter(row -> row.indexOf(a) < row.indexOf(b)).count();
            return ahead == rows.size() ? 1 : ahead == 0 ? 2 : 0;
        }

        int ask(List<List<Integer>> rows, int what) {
            int best = -1, least = Integer.MAX_VALUE;
            for (int egg = 0; egg < eggs.size(); egg++) {
                int[] left = new int[eggs.size()];
                for (List<Integer> row : rows) left[row.indexOf(egg)]++;
                int most = Arrays.stream(left).max().getAsInt();
                if (most >= least) continue;
                least = most;
                best = egg;
            }
            return what == 0 ? best : least;
        }

        boolean isChainBroken(int mended) {
            boolean isEatenAhead = false;
            for (int i : order) {
                Egg e = eggs.get(i);
                if (e.isEaten && (mended >> i) % 2 == 0 && !e.isHatched) isEatenAhead = true;
                if (e.isWhole() && isEatenAhead) return true;
            }
            return false;
        }

        int mend(int what) {
            int best = -1;
            for (int set = 0; set < 1 << eggs.size(); set++) {
                if (isChainBroken(set)) continue;
                if (best < 0 || Integer.bitCount(set) < Integer.bitCount(best)) best = set;
            }
            return what == 0 ? Integer.bitCount(best) : best;
        }

        /** In each HOUR the HOUSES that have the most to go are heated. */
        int soonest(int c) {
            int[] toGo = new int[6];
            for (Egg e : eggs) if (e.isWhole()) toGo[e.house] = Math.max(toGo[e.house], e.need - e.warmth);
            for (int hours = 0;; hours++) {
                Arrays.sort(toGo);
                if (toGo[5] == 0) return hours;
                for (int i = 5; i > 5 - c; i--) toGo[i] = Math.max(0, toGo[i] - 1);
            }
        }

        int gets(int house, int set, int cost) {
            int sum = (set >> house) % 2 == 1 ? -cost : 0;
            for (int i : hatchIf(set)) if (eggs.get(i).house == house) sum += eggs.get(i).worth;
            return sum;
        }

        int rests(int cost, int i) {
            List<Integer> found = new ArrayList<>();
            for (int set = 0; set < 64; set++) {
                boolean isRest = true;
                for (int house = 0; house < 6 && isRest; house++) {
                    int h = house;
                    boolean plays = eggs.stream().anyMatch(e -> e.isWhole() && e.house == h);
                    if (!plays) isRest = (set >> h) % 2 == 0;
                    else isRest = gets(h, set, cost) >= gets(h, set ^ (1 << h), cost);
                }
                if (isRest) found.add(set);
            }
            return i == -1 ? found.size() : in(i, 0, found.size() - 1) ? found.get(i) : -6;
        }

        long shapley(int house, int part) {
            long[] has = new long[64];
            for (int set = 0; set < 64; set++) for (int i : hatchIf(set)) has[set] += eggs.get(i).worth;
            List<List<Integer>> rows = new ArrayList<>();
            allRows(new ArrayList<>(), rows, 6);
            long sum = 0;
            for (List<Integer> row : rows) {
                int set = 0;
                for (int h : row.subList(0, row.indexOf(house))) set += 1 << h;
                sum += has[set + (1 << house)] - has[set];
            }
            return fraction(sum, rows.size(), part);
        }

        long fraction(long upper, long lower, int part) {
            BigInteger u = BigInteger.valueOf(upper), l = BigInteger.valueOf(lower);
            return (part == 0 ? u : l).divide(u.gcd(l)).longValueExact();
        }

        /** Each set of whole EGGS is eaten in so many of all ways. */
        long hope(int t, int what, int part) {
            int n = eggs.size();
            long ways = 1, mean = 0, all = 0;
            for (Egg e : eggs) if (e.isWhole()) ways *= 10;
            for (int set = 0; set < 1 << n; set++) {
                long weight = 1;
                int hatching = 0, whole = 0;
                boolean stopped = false;
                for (int i : order) {
                    Egg e = eggs.get(i);
                    boolean isTaken = (set >> i) % 2 == 1;
                    if (!e.isWhole() && isTaken) weight = 0;
                    if (e.isWhole()) weight *= isTaken ? t : 10 - t;
                    if (e.isWhole()) whole++;
                    if (e.isEaten && !e.isHatched || isTaken) stopped = true;
                    if (e.isWhole() && !stopped) hatching++;
                }
                mean += weight * hatching;
                if (hatching == whole) all += weight;
            }
            return fraction(what == 0 ? mean : all, ways, part);
        }

        int year(int seed, int m, int what) {
            World w = copy();
            BigInteger x = BigInteger.valueOf(seed);
            int hatches = 0, last = 0, stoveHours = 0;
            for (int hour = 1; hour <= m; hour++) {
                x = x.multiply(BigInteger.valueOf(75)).add(BigInteger.valueOf(74)).mod(BigInteger.valueOf(65537));
                w.stoves[x.mod(BigInteger.valueOf(6)).intValue()] ^= true;
                for (boolean isOn : w.stoves) if (isOn) stoveHours++;
                int hatching = w.hour().size();
                hatches += hatching;
                if (hatching > 0) last = hour;
            }
            return new int[] {hatches, last, stoveHours}[what];
        }

        int told(int what) {
            int[] counts = {pad.length(), eggs.size(), stoveBits(), clues.size(), sights.size()};
            if (in(what, 0, 4)) return counts[what];
            for (int place = 0; place < order.size(); place++) {
                if (what == 10 + place) return order.get(place);
            }
            for (int i = 0; i < eggs.size(); i++) {
                Egg e = eggs.get(i);
                int[] facts = {e.need, e.warmth, e.worth, e.house, e.kind()};
                if (in(what, 10 * (2 + i), 10 * (2 + i) + 4)) return facts[what - 10 * (2 + i)];
            }
            return -2;
        }
    }
}
