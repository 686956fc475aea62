import java.util.ArrayDeque;
import java.util.ArrayList;
import java.util.Deque;
import java.util.HashMap;
import java.util.List;
import java.util.Map;
import java.util.TreeMap;
import java.util.TreeSet;

/**
 * Long runs of calls, made from fixed seeds, on ShadowOrder and on a second, plain telling of the document (Model),
 * which shares no code with it: every answer, every exception, and all that is told must be the same.
 */
public final class OracleTests {
    private static int wrong = 0;
    private static int compared = 0;
    private static final Map<String, Integer> seen = new TreeMap<>();

    public static void main(String[] args) {
        for (int seed = 1; seed <= 300; seed++) {
            new Run(seed).go();
        }
        mustHaveSeen();
        System.out.println(compared + " answers compared, " + wrong + " are not as due");
        if (wrong != 0) {
            System.exit(1);
        }
    }

    /** The runs are worth something only if they come by all that the document tells of. */
    private static void mustHaveSeen() {
        String[] needed = {"place REFUSED", "place FAILED", "place NO", "place KEPT", "place done", "take NO", "take KEPT",
            "take done", "move KEPT", "move NO", "move done", "swap KEPT", "swap NO", "swap done", "turn KEPT",
            "turn done", "tails KEPT", "tails done", "fact KEPT", "fact done", "fact FAILED", "listFact done",
            "link REFUSED", "link KEPT", "link done", "freeze done", "freeze REFUSED", "end done", "end REFUSED",
            "end FAILED", "drop done", "undo done", "undo NONE", "open REFUSED", "open FAILED", "open done",
            "maker done", "maker bad", "place throws IndexOutOfBoundsException", "place throws IllegalStateException",
            "place throws IllegalArgumentException"};
        for (String what : needed) {
            if (!seen.containsKey(what)) {
                wrong++;
                System.out.println("no run came by: " + what);
            }
        }
    }

    interface Call {
        long on();
    }

    /** An answer as text: a number, or the exception's name. */
    private static String answer(Call call) {
        try {
            return Long.toString(call.on());
        } catch (IndexOutOfBoundsException | IllegalStateException | IllegalArgumentException e) {
            return "throws " + e.getClass().getSimpleName();
        }
    }

    // ------------------------------------------------------------------ the runs

    private static final class Run {
        final int seed;
        long state;
        final ShadowOrder real = new ShadowOrder();
        final Model model = new Model();
        final List<String> told = new ArrayList<>();
        /** The one code of 5 to 7 by which most makers of this run read their own kind. */
        final int forward;
        boolean bad;

        Run(int seed) {
            this.seed = seed;
            this.state = seed * 7919L + 17;
            this.forward = 5 + roll(3);
        }

        int roll(int n) {
            state = state * 6364136223846793005L + 1442695040888963407L;
            return (int) ((state >>> 33) % n);
        }

        void same(String call, Call a, Call b) {
            String got = answer(a);
            String want = answer(b);
            compared++;
            note(call, want);
            boolean asksOnly = call.startsWith("?");
            if (!asksOnly) {
                told.add(call + " -> " + want);
            }
            if (!got.equals(want) && !bad) {
                bad = true;
                wrong++;
                System.out.println("seed " + seed + ": " + call + " answered " + got + ", due is " + want);
                int from = Math.max(0, told.size() - 40);
                System.out.println("  behind " + told.subList(from, told.size()));
            }
        }

        void note(String call, String want) {
            if (call.startsWith("?")) {
                return;
            }
            String name = call.substring(0, call.indexOf('('));
            String how = want.startsWith("throws") ? want : word(name, Long.parseLong(want));
            seen.merge(name + " " + how, 1, Integer::sum);
        }

        String word(String name, long n) {
            if (name.equals("maker")) {
                return n == 0 ? "done" : "bad";
            }
            if (name.equals("undo")) {
                return n == -1 ? "NONE" : "done";
            }
            return n == -1 ? "REFUSED" : n == -2 ? "FAILED" : n == -3 ? "KEPT" : n == -4 ? "NO" : "done";
        }

        void go() {
            book();
            for (int i = 0; i < 6 && !model.closed; i++) {
                same("open()", real::open, model::open);
                tellAll();
                if (!model.closed) {
                    makers(true);
                }
            }
            int calls = 120 + roll(120);
            for (int i = 0; i < calls && !bad; i++) {
                oneMove();
                tellAll();
            }
        }

        void book() {
            int things = seed % 10 == 0 ? 41 : 3 + roll(9);
            for (int i = 0; i < things; i++) {
                int a = small();
                int b = small();
                int c = roll(4) == 0 ? 0 : small();
                int d = roll(8) == 0 ? Integer.MAX_VALUE - roll(3) : small();
                same("thing(" + a + "," + b + "," + c + "," + d + ")", () -> real.thing(a, b, c, d),
                    () -> model.thing(a, b, c, d));
            }
            int lists = seed % 10 == 0 ? 7 : 1 + roll(4);
            for (int i = 0; i < lists; i++) {
                int a = small();
                int b = small();
                same("list(" + a + "," + b + ")", () -> real.list(a, b), () -> model.list(a, b));
            }
            makers(false);
            oneMove();
            tellAll();
        }

        int small() {
            return roll(12) - 4;
        }

        void makers(boolean tame) {
            for (int kind = 0; kind < 9; kind++) {
                if (roll(3) == 0 && !tame) {
                    continue;
                }
                if (tame) {
                    stepOn(0, roll(9));
                } else if (roll(12) == 0) {
                    wildSteps();
                } else {
                    fitSteps(kind);
                }
                int k = kind;
                same("maker(" + k + ")", () -> real.maker(k), () -> model.maker(k));
            }
            int odd = roll(12) - 1;
            if (odd < 0 || odd > 8) {
                same("maker(" + odd + ")", () -> real.maker(odd), () -> model.maker(odd));
            }
        }

        void wildSteps() {
            int n = roll(27);
            for (int i = 0; i < n; i++) {
                stepOn(roll(28) - 1, roll(12) - 1);
            }
        }

        void stepOn(int code, int v) {
            same("step(" + code + "," + v + ")", () -> real.step(code, v), () -> model.step(code, v));
        }

        /** Steps that mostly make a maker; shadows are read of lower kinds mostly, so that rings are rare. */
        void fitSteps(int kind) {
            int depth = 0;
            int n = 1 + roll(7);
            for (int i = 0; i < n; i++) {
                depth = fitStep(kind, depth);
            }
            while (depth > 1) {
                stepOn(new int[] {14, 15, 18, 19, 24, 14, 16}[roll(7)], roll(3));
                depth--;
            }
            if (depth == 0) {
                stepOn(0, small());
            }
        }

        int fitStep(int kind, int depth) {
            if (depth >= 3 && roll(3) == 0) {
                stepOn(20, 0);
                return depth - 2;
            }
            if (depth >= 2 && roll(3) == 0) {
                int code = new int[] {14, 15, 16, roll(4) == 0 ? 17 : 14, 18, 19, 23, 24}[roll(8)];
                stepOn(code, roll(100));
                return code == 23 ? depth : depth - 1;
            }
            if (depth >= 1 && roll(150) == 0) {
                stepOn(21, 0);
                return depth - 1;
            }
            if (depth >= 1 && roll(8) == 0) {
                stepOn(22, 0);
                return depth + 1;
            }
            return kind < 6 ? thingLook(kind, depth) : listLook(kind, depth);
        }

        int readable(int kind) {
            return roll(30) == 0 ? roll(6) : kind > 0 ? roll(kind) : 1 + roll(5);
        }

        int thingLook(int kind, int depth) {
            int which = roll(9);
            if (which >= 5 && which <= 7) {
                if (depth == 0) {
                    stepOn(0, small());
                }
                stepOn(which, which == forward && roll(3) > 0 || roll(40) == 0 ? kind : readable(kind));
                return Math.max(depth, 1);
            }
            int v = which == 0 ? big() : which == 1 ? roll(4) : which == 2 || which == 3 ? roll(2)
                : which == 4 ? readable(kind) : 6 + roll(3);
            if (which == 8 && roll(6) != 0 || which == 4 && kind == 0) {
                stepOn(1, roll(4));
            } else {
                stepOn(which, v);
            }
            return depth + 1;
        }

        int big() {
            return roll(10) == 0 ? 1000000000 : small();
        }

        int listLook(int kind, int depth) {
            int which = new int[] {0, 1, 3, 4, 9, 9, 10, 11, 12, 13}[roll(10)];
            if (which >= 10) {
                if (depth == 0) {
                    stepOn(0, small());
                }
                stepOn(which, roll(6));
                return Math.max(depth, 1);
            }
            stepOn(which, which == 0 ? big() : which == 1 ? roll(2) : which == 3 ? 1
                : which == 4 ? (kind > 6 && roll(8) != 0 ? 6 + roll(kind - 6) : 6 + roll(3)) : roll(6));
            return depth + 1;
        }

        int someThing() {
            return roll(40) == 0 ? outside(model.things) : roll(Math.max(1, model.things));
        }

        int someList() {
            return roll(40) == 0 ? outside(model.lists) : roll(Math.max(1, model.lists));
        }

        int somePlace(int list) {
            int size = list >= 0 && list < model.lists ? model.plan.rows.get(list).size() : 3;
            return roll(25) == 0 ? outside(size + 1) : roll(size + 1);
        }

        int outside(int end) {
            return new int[] {-1, -2, end, end + 1, Integer.MIN_VALUE, Integer.MAX_VALUE}[roll(6)];
        }

        void oneMove() {
            int t = someThing();
            int u = someThing();
            int l = someList();
            int m = someList();
            int p = somePlace(l);
            int q = somePlace(m);
            switch (roll(22)) {
                case 0: case 1: case 2: case 3:
                    same("place(" + t + "," + l + "," + p + ")", () -> real.place(t, l, p), () -> model.place(t, l, p));
                    break;
                case 4:
                    same("take(" + t + ")", () -> real.take(t), () -> model.take(t));
                    break;
                case 5: case 6:
                    same("move(" + t + "," + l + "," + p + ")", () -> real.move(t, l, p), () -> model.move(t, l, p));
                    break;
                case 7: case 8:
                    same("swap(" + t + "," + u + ")", () -> real.swap(t, u), () -> model.swap(t, u));
                    break;
                case 9:
                    int to = p + roll(4) - (roll(9) == 0 ? 2 : 0);
                    same("turn(" + l + "," + p + "," + to + ")", () -> real.turn(l, p, to), () -> model.turn(l, p, to));
                    break;
                case 10:
                    same("tails(" + l + "," + p + "," + m + "," + q + ")", () -> real.tails(l, p, m, q),
                        () -> model.tails(l, p, m, q));
                    break;
                case 11: case 12:
                    int f = roll(20) == 0 ? outside(4) : roll(4);
                    int v = roll(6) == 0 ? 2000000000 : small();
                    same("fact(" + t + "," + f + "," + v + ")", () -> real.fact(t, f, v), () -> model.fact(t, f, v));
                    break;
                case 13:
                    int g = roll(20) == 0 ? outside(2) : roll(2);
                    int w = small();
                    same("listFact(" + l + "," + g + "," + w + ")", () -> real.listFact(l, g, w),
                        () -> model.listFact(l, g, w));
                    break;
                case 14: case 15:
                    int other = roll(5) == 0 ? -1 : u;
                    same("link(" + t + "," + other + ")", () -> real.link(t, other), () -> model.link(t, other));
                    break;
                case 16:
                    int n = roll(2) == 0 ? Math.min(p, 1) : p;
                    same("freeze(" + l + "," + n + ")", () -> real.freeze(l, n), () -> model.freeze(l, n));
                    break;
                case 17:
                    same("begin()", () -> { real.begin(); return 0; }, () -> { model.begin(); return 0; });
                    break;
                case 18: case 19:
                    same("end()", real::end, model::end);
                    break;
                case 20:
                    if (roll(3) == 0) {
                        same("drop()", real::drop, model::drop);
                    }
                    break;
                default:
                    if (roll(2) == 0) {
                        same("undo()", real::undo, model::undo);
                    }
                    break;
            }
        }

        void ask(String call, Call a, Call b) {
            same("?" + call, a, b);
        }

        void tellAll() {
            for (int t = -1; t <= model.things; t++) {
                int thing = t;
                for (int k = -1; k <= 6; k++) {
                    int kind = k;
                    ask("shadow " + t + " " + k, () -> real.shadow(thing, kind), () -> model.shadow(thing, kind));
                }
                for (int k = -1; k <= 10; k++) {
                    int what = k;
                    ask("where " + t + " " + k, () -> real.where(thing, what), () -> model.where(thing, what));
                }
            }
            for (int l = -1; l <= model.lists; l++) {
                int list = l;
                for (int k = 5; k <= 9; k++) {
                    int kind = k;
                    ask("listShadow " + l + " " + k, () -> real.listShadow(list, kind),
                        () -> model.listShadow(list, kind));
                }
                for (int p = -1; p <= model.things; p++) {
                    int place = p;
                    ask("at " + l + " " + p, () -> real.at(list, place), () -> model.at(list, place));
                }
            }
            int cells = model.orderRow.size() + 2;
            for (int i = -1; i <= cells; i++) {
                int k = i;
                ask("worked " + k, () -> real.worked(k), () -> Model.kth(model.workedRow, k));
                ask("order " + k, () -> real.order(k), () -> Model.kth(model.orderRow, k));
                ask("ring " + k, () -> real.ring(k), () -> Model.kth(model.ringRow, k));
            }
            for (int i = -1; i <= 7; i++) {
                int k = i;
                ask("cause " + k, () -> real.cause(k), () -> model.cause(k));
                ask("count " + k, () -> real.count(k), () -> model.count(k));
            }
            ask("isSame", () -> real.isSame() ? 1 : 0, () -> 1);
        }
    }

    // ------------------------------------------------------------------ the document, told a second time

    private static final class State {
        List<List<Integer>> rows = new ArrayList<>();
        List<int[]> facts = new ArrayList<>();
        List<int[]> listFacts = new ArrayList<>();
        List<Integer> links = new ArrayList<>();
        List<Integer> frozen = new ArrayList<>();

        State copy() {
            State s = new State();
            rows.forEach(r -> s.rows.add(new ArrayList<>(r)));
            facts.forEach(f -> s.facts.add(f.clone()));
            listFacts.forEach(f -> s.listFacts.add(f.clone()));
            s.links.addAll(links);
            s.frozen.addAll(frozen);
            return s;
        }

        int listOf(int thing) {
            for (int l = 0; l < rows.size(); l++) {
                if (rows.get(l).contains(thing)) {
                    return l;
                }
            }
            return -1;
        }

        int placeOf(int thing) {
            int l = listOf(thing);
            return l < 0 ? -1 : rows.get(l).indexOf(thing);
        }

        int at(int list, int place) {
            return place < 0 || place >= rows.get(list).size() ? -1 : rows.get(list).get(place);
        }

        boolean isFrozen(int thing) {
            int l = listOf(thing);
            return l >= 0 && placeOf(thing) < frozen.get(l);
        }
    }

    /** What was kept of the time before a move. */
    private record Before(State plan, TreeMap<Integer, Long> numbers) { }

    private static final class Fail extends Exception {
        private static final long serialVersionUID = 1;
        final int why;
        final int step;

        Fail(int why, int step) {
            this.why = why;
            this.step = step;
        }
    }

    private static final class Model {
        int things;
        int lists;
        boolean closed;
        boolean group;
        int moves;
        State plan = new State();
        State base = new State();
        final List<List<int[]>> makers = new ArrayList<>();
        List<int[]> steps = new ArrayList<>();
        TreeMap<Integer, Long> numbers = new TreeMap<>();
        List<Integer> orderRow = new ArrayList<>();
        List<Integer> workedRow = new ArrayList<>();
        List<Integer> ringRow = new ArrayList<>();
        int[] causes = {0, -1, -1, -1};
        int workedInAll;
        int refused;
        final Deque<Before> past = new ArrayDeque<>();

        Model() {
            for (int k = 0; k < 9; k++) {
                makers.add(null);
            }
        }

        static int kth(List<Integer> row, int k) {
            return k < 0 || k >= row.size() ? -1 : row.get(k);
        }

        void state(boolean good) {
            if (!good) {
                throw new IllegalStateException();
            }
        }

        void number(boolean good) {
            if (!good) {
                throw new IllegalArgumentException();
            }
        }

        void hasThing(int t) {
            if (t < 0 || t >= things) {
                throw new IndexOutOfBoundsException();
            }
        }

        void hasList(int l) {
            if (l < 0 || l >= lists) {
                throw new IndexOutOfBoundsException();
            }
        }

        int thing(int... facts) {
            state(!closed && things < 40);
            plan.facts.add(facts.clone());
            plan.links.add(-1);
            base = plan.copy();
            return things++;
        }

        int list(int... facts) {
            state(!closed && lists < 6);
            plan.listFacts.add(facts.clone());
            plan.rows.add(new ArrayList<>());
            plan.frozen.add(0);
            base = plan.copy();
            return lists++;
        }

        int step(int code, int v) {
            state(!closed && steps.size() < 24);
            steps.add(new int[] {code, v});
            return steps.size();
        }

        int maker(int kind) {
            state(!closed);
            number(kind >= 0 && kind <= 8);
            List<int[]> mine = steps;
            steps = new ArrayList<>();
            int depth = 0;
            for (int s = 0; s < mine.size(); s++) {
                String shape = shape(mine.get(s)[0], mine.get(s)[1], kind < 6);
                if (shape == null) {
                    return -1 - s;
                }
                int bar = shape.indexOf('-');
                int takes = bar;
                int gives = shape.length() - bar - 1;
                if (takes > depth || depth - takes + gives > 8) {
                    return -1 - s;
                }
                depth = depth - takes + gives;
            }
            if (depth != 1) {
                return -1 - mine.size();
            }
            makers.set(kind, mine);
            return 0;
        }

        /** "ab-c": takes two, gives one; null: no step. */
        static String shape(int code, int v, boolean t) {
            boolean thingKind = v >= 0 && v <= 5;
            boolean listKind = v >= 6 && v <= 8;
            boolean ok;
            switch (code) {
                case 0: ok = true; break;
                case 1: ok = v >= 0 && v <= (t ? 3 : 1); break;
                case 2: ok = t && (v == 0 || v == 1); break;
                case 3: ok = t ? v == 0 || v == 1 : v == 1; break;
                case 4: ok = t ? thingKind : listKind; break;
                case 5: case 6: case 7: ok = t && thingKind; break;
                case 8: ok = t && listKind; break;
                case 9: case 10: case 11: case 12: case 13: ok = !t && thingKind; break;
                default: ok = code >= 14 && code <= 24; break;
            }
            if (!ok) {
                return null;
            }
            String[] shapes = {"-a", "-a", "-a", "-a", "-a", "a-b", "a-b", "a-b", "-a", "-a", "a-b", "a-b", "a-b",
                "a-b", "ab-c", "ab-c", "ab-c", "ab-c", "ab-c", "ab-c", "abc-d", "a-", "a-aa", "ab-ba", "a-"};
            return shapes[code];
        }

        // cells, looks, reads

        TreeSet<Integer> cellsOf(State s) {
            TreeSet<Integer> cells = new TreeSet<>();
            for (int k = 0; k < 6; k++) {
                for (int t = 0; t < things; t++) {
                    if (makers.get(k) != null && s.listOf(t) >= 0) {
                        cells.add(6 * t + k);
                    }
                }
            }
            for (int k = 6; k < 9; k++) {
                for (int l = 0; l < lists; l++) {
                    if (makers.get(k) != null) {
                        cells.add(240 + 3 * l + k - 6);
                    }
                }
            }
            return cells;
        }

        boolean frozenCell(State s, int cell) {
            return cell < 240 && s.isFrozen(cell / 6);
        }

        List<int[]> makerOf(int cell) {
            return makers.get(cell < 240 ? cell % 6 : 6 + (cell - 240) % 3);
        }

        /** Each look as a text; "S" and a number: a shadow, "": nothing. */
        List<String> looks(State s, int cell) {
            List<String> looks = new ArrayList<>();
            if (!frozenCell(s, cell)) {
                for (int[] step : makerOf(cell)) {
                    looks.addAll(looksOf(s, cell, step[0], step[1]));
                }
            }
            return looks;
        }

        List<String> looksOf(State s, int cell, int code, int v) {
            boolean ofThing = cell < 240;
            int owner = ofThing ? cell / 6 : (cell - 240) / 3;
            int list = ofThing ? s.listOf(owner) : owner;
            List<Integer> row = s.rows.get(list);
            int place = ofThing ? s.placeOf(owner) : -1;
            switch (code) {
                case 1:
                    return List.of((ofThing ? "F" : "G") + owner + "." + v);
                case 2:
                    return List.of("G" + list + "." + v);
                case 3:
                    return List.of((v == 0 ? "P" + owner + "." : "N") + list);
                case 4:
                    return List.of("S" + (ofThing ? 6 * owner + v : 240 + 3 * owner + v - 6));
                case 5:
                    return thingLook(s.at(list, place - 1), v);
                case 6:
                    return thingLook(s.at(list, place + 1), v);
                case 7:
                    int link = s.links.get(owner);
                    return thingLook(link >= 0 && s.listOf(link) >= 0 ? link : -1, v);
                case 8:
                    return List.of("S" + (240 + 3 * list + v - 6));
                case 9: case 10: case 11:
                    List<String> all = new ArrayList<>();
                    row.forEach(t -> all.add("S" + (6 * t + v)));
                    return all;
                case 12:
                    return thingLook(s.at(list, 0), v);
                case 13:
                    return thingLook(s.at(list, row.size() - 1), v);
                default:
                    return List.of();
            }
        }

        static List<String> thingLook(int thing, int kind) {
            return List.of(thing < 0 ? "" : "S" + (6 * thing + kind));
        }

        long numberOf(State s, TreeMap<Integer, Long> shadows, String look) {
            String[] parts = look.substring(1).split("\\.");
            int first = Integer.parseInt(parts[0]);
            switch (look.charAt(0)) {
                case 'F':
                    return s.facts.get(first)[Integer.parseInt(parts[1])];
                case 'G':
                    return s.listFacts.get(first)[Integer.parseInt(parts[1])];
                case 'P':
                    return s.placeOf(first);
                case 'N':
                    return s.rows.get(first).size();
                default:
                    return shadows.getOrDefault(first, 0L);
            }
        }

        List<Integer> reads(State s, int cell, TreeSet<Integer> cells) {
            List<Integer> reads = new ArrayList<>();
            for (String look : looks(s, cell)) {
                if (look.startsWith("S") && cells.contains(Integer.parseInt(look.substring(1)))) {
                    reads.add(Integer.parseInt(look.substring(1)));
                }
            }
            return reads;
        }

        /** THE ORDER; with a ring it is shorter than there are cells. */
        List<Integer> arrange(TreeMap<Integer, List<Integer>> reads) {
            List<Integer> row = new ArrayList<>();
            boolean more = true;
            while (more) {
                more = false;
                for (int cell : reads.keySet()) {
                    if (!row.contains(cell) && row.containsAll(reads.get(cell))) {
                        row.add(cell);
                        more = true;
                        break;
                    }
                }
            }
            return row;
        }

        /** How many reads lead from one cell to another; -1: no way. */
        static int way(Map<Integer, List<Integer>> reads, int from, int to) {
            Map<Integer, Integer> far = new HashMap<>();
            Deque<Integer> queue = new ArrayDeque<>();
            far.put(from, 0);
            queue.add(from);
            while (!queue.isEmpty()) {
                int cell = queue.remove();
                if (cell == to) {
                    return far.get(cell);
                }
                for (int next : reads.get(cell)) {
                    if (far.putIfAbsent(next, far.get(cell) + 1) == null) {
                        queue.add(next);
                    }
                }
            }
            return -1;
        }

        List<Integer> findRing(TreeMap<Integer, List<Integer>> reads) {
            for (int start : reads.keySet()) {
                if (reads.get(start).stream().anyMatch(r -> way(reads, r, start) >= 0)) {
                    List<Integer> ring = new ArrayList<>();
                    int cell = start;
                    do {
                        ring.add(cell);
                        int best = -1;
                        for (int next : reads.get(cell)) {
                            int way = way(reads, next, start);
                            if (way >= 0 && (best < 0 || way < way(reads, best, start))) {
                                best = next;
                            }
                        }
                        cell = best;
                    } while (cell != start);
                    return ring;
                }
            }
            throw new AssertionError("no ring");
        }

        static final long FAR = 1_000_000_000_000_000L;

        long work(State s, int cell, TreeMap<Integer, Long> shadows) throws Fail {
            Deque<Long> stack = new ArrayDeque<>();
            List<int[]> maker = makerOf(cell);
            for (int i = 0; i < maker.size(); i++) {
                int code = maker.get(i)[0];
                int v = maker.get(i)[1];
                List<String> looks = looksOf(s, cell, code, v);
                List<Long> values = new ArrayList<>();
                for (String look : looks) {
                    if (!look.isEmpty()) {
                        values.add(numberOf(s, shadows, look));
                    }
                }
                java.math.BigInteger number = null;
                if (code == 0) {
                    stack.push((long) v);
                } else if (code <= 4 || code == 8) {
                    stack.push(values.get(0));
                } else if (code == 9) {
                    number = big(values.stream().mapToLong(x -> x).sum());
                } else if (code <= 13) {
                    if (!values.isEmpty()) {
                        stack.pop();
                        stack.push(code == 10 ? values.stream().max(Long::compare).get()
                            : code == 11 ? values.stream().min(Long::compare).get() : values.get(0));
                    }
                } else {
                    number = reckon(code, stack, i);
                }
                if (number != null) {
                    if (number.abs().compareTo(big(FAR)) > 0) {
                        throw new Fail(3, i);
                    }
                    stack.push(number.longValue());
                }
            }
            return stack.pop();
        }

        static java.math.BigInteger big(long n) {
            return java.math.BigInteger.valueOf(n);
        }

        static java.math.BigInteger reckon(int code, Deque<Long> stack, int step) throws Fail {
            long z = stack.pop();
            if (code == 24) {
                return null;
            }
            if (code == 21) {
                if (z != 0) {
                    throw new Fail(2, step);
                }
                return null;
            }
            if (code == 22) {
                stack.push(z);
                return big(z);
            }
            long y = stack.pop();
            switch (code) {
                case 14: return big(y).add(big(z));
                case 15: return big(y).subtract(big(z));
                case 16: return big(y).multiply(big(z));
                case 17:
                    if (z == 0) {
                        throw new Fail(1, step);
                    }
                    return big(y).divide(big(z));
                case 18: return big(y).min(big(z));
                case 19: return big(y).max(big(z));
                case 23:
                    stack.push(z);
                    return big(y);
                default: return big(stack.pop() > 0 ? y : z);
            }
        }

        // judging

        int judge(boolean opening) {
            TreeSet<Integer> cells = cellsOf(plan);
            TreeMap<Integer, List<Integer>> reads = new TreeMap<>();
            cells.forEach(c -> reads.put(c, reads(plan, c, cells)));
            List<Integer> row = arrange(reads);
            if (row.size() < cells.size()) {
                refused++;
                ringRow = findRing(reads);
                causes = new int[] {1, -1, -1, -1};
                return -1;
            }
            TreeMap<Integer, Long> now = new TreeMap<>();
            cells.forEach(c -> now.put(c, numbers.getOrDefault(c, 0L)));
            TreeSet<Integer> oldCells = opening ? new TreeSet<>() : cellsOf(base);
            List<Integer> done = new ArrayList<>();
            for (int cell : row) {
                if (!frozenCell(plan, cell) && touched(cell, oldCells, now)) {
                    try {
                        now.put(cell, work(plan, cell, now));
                    } catch (Fail f) {
                        refused++;
                        ringRow = List.of();
                        causes = new int[] {2, cell, f.why, f.step};
                        return -2;
                    }
                    done.add(cell);
                }
            }
            ringRow = List.of();
            causes = new int[] {0, -1, -1, -1};
            numbers = now;
            orderRow = row;
            workedRow = done;
            workedInAll += done.size();
            return done.size();
        }

        boolean touched(int cell, TreeSet<Integer> oldCells, TreeMap<Integer, Long> now) {
            if (!oldCells.contains(cell) || frozenCell(base, cell)) {
                return true;
            }
            List<String> old = looks(base, cell);
            if (!old.equals(looks(plan, cell))) {
                return true;
            }
            return old.stream().anyMatch(look -> !look.isEmpty()
                && numberOf(base, numbers, look) != numberOf(plan, now, look));
        }

        int open() {
            state(!closed);
            int answer = judge(true);
            closed = answer >= 0;
            return answer;
        }

        int settle() {
            if (group) {
                moves++;
                return 0;
            }
            Before before = new Before(base, numbers);
            int answer = judge(false);
            if (answer < 0) {
                plan = base.copy();
            } else {
                past.addLast(before);
                if (past.size() > 60) {
                    past.removeFirst();
                }
                base = plan.copy();
            }
            return answer;
        }

        // moves: each is tried on a copy, and the frozen things are then looked for in it

        int tryPlan(State next) {
            for (int t = 0; t < things; t++) {
                if (plan.isFrozen(t) && (next.listOf(t) != plan.listOf(t) || next.placeOf(t) != plan.placeOf(t)
                    || !next.links.get(t).equals(plan.links.get(t))
                    || !java.util.Arrays.equals(next.facts.get(t), plan.facts.get(t)))) {
                    return -3;
                }
            }
            plan = next;
            return settle();
        }

        int place(int thing, int list, int at) {
            hasThing(thing);
            hasList(list);
            state(closed);
            number(at >= 0 && at <= plan.rows.get(list).size());
            if (plan.listOf(thing) >= 0) {
                return -4;
            }
            State next = plan.copy();
            next.rows.get(list).add(at, thing);
            return tryPlan(next);
        }

        int take(int thing) {
            hasThing(thing);
            state(closed);
            if (plan.listOf(thing) < 0) {
                return -4;
            }
            State next = plan.copy();
            next.rows.get(plan.listOf(thing)).remove((Integer) thing);
            return tryPlan(next);
        }

        int move(int thing, int list, int at) {
            hasThing(thing);
            hasList(list);
            state(closed);
            State next = plan.copy();
            next.rows.forEach(r -> r.remove((Integer) thing));
            number(at >= 0 && at <= next.rows.get(list).size());
            if (plan.listOf(thing) < 0) {
                return -4;
            }
            next.rows.get(list).add(at, thing);
            return tryPlan(next);
        }

        int swap(int thing, int other) {
            hasThing(thing);
            hasThing(other);
            state(closed);
            number(thing != other);
            if (plan.listOf(thing) < 0 || plan.listOf(other) < 0) {
                return -4;
            }
            State next = plan.copy();
            next.rows.forEach(r -> r.replaceAll(t -> t == thing ? other : t == other ? thing : t));
            return tryPlan(next);
        }

        int turn(int list, int from, int to) {
            hasList(list);
            state(closed);
            number(from >= 0 && to >= from && to < plan.rows.get(list).size());
            State next = plan.copy();
            java.util.Collections.reverse(next.rows.get(list).subList(from, to + 1));
            return tryPlan(next);
        }

        int tails(int list, int from, int other, int at) {
            hasList(list);
            hasList(other);
            state(closed);
            number(list != other);
            number(from >= 0 && from <= plan.rows.get(list).size() && at >= 0 && at <= plan.rows.get(other).size());
            State next = plan.copy();
            List<Integer> one = next.rows.get(list);
            List<Integer> two = next.rows.get(other);
            List<Integer> oneNew = new ArrayList<>(one.subList(0, from));
            oneNew.addAll(two.subList(at, two.size()));
            List<Integer> twoNew = new ArrayList<>(two.subList(0, at));
            twoNew.addAll(one.subList(from, one.size()));
            next.rows.set(list, oneNew);
            next.rows.set(other, twoNew);
            return tryPlan(next);
        }

        int fact(int thing, int fact, int v) {
            hasThing(thing);
            state(closed);
            number(fact >= 0 && fact <= 3);
            State next = plan.copy();
            next.facts.get(thing)[fact] = v;
            return tryPlan(next);
        }

        int listFact(int list, int fact, int v) {
            hasList(list);
            state(closed);
            number(fact == 0 || fact == 1);
            State next = plan.copy();
            next.listFacts.get(list)[fact] = v;
            return tryPlan(next);
        }

        int link(int thing, int other) {
            hasThing(thing);
            if (other != -1) {
                hasThing(other);
            }
            state(closed);
            number(thing != other);
            State next = plan.copy();
            next.links.set(thing, other);
            return tryPlan(next);
        }

        int freeze(int list, int n) {
            hasList(list);
            state(closed);
            number(n >= 0 && n <= plan.rows.get(list).size());
            State next = plan.copy();
            next.frozen.set(list, n);
            return tryPlan(next);
        }

        void begin() {
            state(closed && !group);
            group = true;
            moves = 0;
        }

        int end() {
            state(closed && group);
            group = false;
            moves = 0;
            return settle();
        }

        int drop() {
            state(closed && group);
            int n = moves;
            group = false;
            moves = 0;
            plan = base.copy();
            return n;
        }

        int undo() {
            state(closed && !group);
            if (past.isEmpty()) {
                return -1;
            }
            Before before = past.removeLast();
            TreeSet<Integer> all = new TreeSet<>(numbers.keySet());
            all.addAll(before.numbers.keySet());
            int other = 0;
            for (int cell : all) {
                if (!java.util.Objects.equals(numbers.get(cell), before.numbers.get(cell))) {
                    other++;
                }
            }
            base = before.plan;
            plan = base.copy();
            numbers = before.numbers;
            TreeSet<Integer> cells = cellsOf(base);
            TreeMap<Integer, List<Integer>> reads = new TreeMap<>();
            cells.forEach(c -> reads.put(c, reads(base, c, cells)));
            orderRow = arrange(reads);
            workedRow = List.of();
            return other;
        }

        // what is told

        long shadow(int thing, int kind) {
            hasThing(thing);
            number(kind >= 0 && kind <= 5);
            return numbers.getOrDefault(6 * thing + kind, 0L);
        }

        long listShadow(int list, int kind) {
            hasList(list);
            number(kind >= 6 && kind <= 8);
            return numbers.getOrDefault(240 + 3 * list + kind - 6, 0L);
        }

        int where(int thing, int what) {
            hasThing(thing);
            number(what >= 0 && what <= 9);
            int list = plan.listOf(thing);
            int place = plan.placeOf(thing);
            switch (what) {
                case 0: return list;
                case 1: return place;
                case 2: return list < 0 ? -1 : plan.at(list, place - 1);
                case 3: return list < 0 ? -1 : plan.at(list, place + 1);
                case 4: return plan.links.get(thing);
                case 5: return plan.isFrozen(thing) ? 1 : 0;
                default: return plan.facts.get(thing)[what - 6];
            }
        }

        int at(int list, int place) {
            hasList(list);
            return plan.at(list, place);
        }

        int cause(int what) {
            number(what >= 0 && what <= 3);
            return causes[what];
        }

        int count(int what) {
            number(what >= 0 && what <= 6);
            return new int[] {things, lists, orderRow.size(), past.size(), workedInAll, refused, moves}[what];
        }
    }
}
