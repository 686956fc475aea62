import java.util.function.Supplier;

/**
 * How the tests of boundary cases ask, and the stories that they ask about. No object is asked more than 512 calls:
 * what a call leaves behind is seen by telling its story once more.
 */
class Boundary {
    static final int NONE = ShadowOrder.NONE;
    static final int REFUSED = ShadowOrder.REFUSED;
    static final int FAILED = ShadowOrder.FAILED;
    static final int KEPT = ShadowOrder.KEPT;
    static final int NO = ShadowOrder.NO;
    static final int LEAST = Integer.MIN_VALUE;
    static final int MOST = Integer.MAX_VALUE;
    static final long LIMIT = 1_000_000_000_000_000L;
    static final String INDEX = "IndexOutOfBoundsException";
    static final String STATE = "IllegalStateException";
    static final String ARGUMENT = "IllegalArgumentException";
    /** How many numbers each code takes off the stack. */
    static final int[] TAKES = {0, 0, 0, 0, 0, 1, 1, 1, 0, 0, 1, 1, 1, 1, 2, 2, 2, 2, 2, 2, 3, 1, 1, 2, 1};

    static String part;
    static String sentence;
    static int sentences;
    static int asked;
    static int wrong;

    interface Call {
        long on(ShadowOrder x);
    }

    interface Told {
        int tell(int k);
    }

    static void says(String words, Runnable test) {
        sentence = words;
        sentences++;
        try {
            test.run();
        } catch (RuntimeException e) {
            wrong++;
            System.out.println(part + ", \"" + sentence + "\": threw " + e);
        }
    }

    static void due(String what, Object got, Object want) {
        asked++;
        if (!String.valueOf(got).equals(String.valueOf(want))) {
            wrong++;
            System.out.println(part + ", \"" + sentence + "\": " + what + " is " + got + ", due is " + want);
        }
    }

    static void ends() {
        System.out.println(sentences + " sentences, " + asked + " answers asked, " + wrong + " are not as due");
        if (wrong != 0) {
            System.exit(1);
        }
    }

    static String answer(ShadowOrder x, Call call) {
        try {
            return String.valueOf(call.on(x));
        } catch (RuntimeException e) {
            return e.getClass().getSimpleName();
        }
    }

    /** A call that throws, or answers NO or KEPT: all is then as it was, to the last undo(). */
    static void leavesAll(Supplier<ShadowOrder> story, Object want, Call call) {
        ShadowOrder x = story.get();
        due("the answer", answer(x, call), want);
        due("what is told behind it", whole(x), whole(story.get()));
    }

    /** A call that is judged and refused: all is as it was but what cause(), ring() and count(5) tell. */
    static void refuses(Supplier<ShadowOrder> story, int want, String verdict, Call call) {
        refuses(story, story, want, verdict, call);
    }

    /** Where the refused call ends a group, all is as it was before that: as by another story. */
    static void refuses(Supplier<ShadowOrder> story, Supplier<ShadowOrder> as, int want, String verdict,
            Call call) {
        ShadowOrder x = story.get();
        int refused = x.count(5);
        due("the answer", answer(x, call), want);
        due("count(5) behind it", x.count(5), refused + 1);
        due("ring and cause behind it", verdict(x), verdict);
        ShadowOrder y = as.get();
        due("what else is told behind it", told(x) + later(x), told(y) + later(y));
    }

    /** All that is told, and what comes later. */
    static String whole(ShadowOrder x) {
        return told(x) + verdict(x) + ", refused " + x.count(5) + later(x);
    }

    /** All that is told, but for what tells of a refusal. */
    static String told(ShadowOrder x) {
        StringBuilder b = new StringBuilder(planOf(x)).append(cells(x)).append(" worked ").append(all(x::worked));
        for (int what = 0; what < 7; what++) {
            b.append(' ').append(what == 5 ? "" : x.count(what));
        }
        return b.toString();
    }

    /** Who stands where, links, facts, what is frozen. */
    static String planOf(ShadowOrder x) {
        StringBuilder b = new StringBuilder();
        int things = x.count(0);
        for (int t = 0; t < things; t = next(t, things)) {
            for (int what = 0; what < 10; what++) {
                b.append(x.where(t, what)).append(' ');
            }
        }
        int lists = x.count(1);
        for (int l = 0; l < lists; l++) {
            b.append("/ ").append(row(x, l)).append(' ');
        }
        return b.toString();
    }

    /** Which cells there are, and all numbers. */
    static String cells(ShadowOrder x) {
        StringBuilder b = new StringBuilder("order ").append(all(x::order)).append(' ').append(x.isSame());
        int things = x.count(0);
        for (int t = 0; t < things; t = next(t, things)) {
            for (int kind = 0; kind < 6; kind++) {
                b.append(' ').append(x.shadow(t, kind));
            }
        }
        int lists = x.count(1);
        for (int l = 0; l < lists; l++) {
            for (int kind = 6; kind < 9; kind++) {
                b.append(' ').append(x.listShadow(l, kind));
            }
        }
        return b.append(' ').append(x.count(2)).toString();
    }

    /** Of many things only the first ones and the last are asked, as an object has 512 calls. */
    private static int next(int thing, int things) {
        return thing == 7 && things > 8 ? things - 1 : thing + 1;
    }

    static String verdict(ShadowOrder x) {
        return "ring " + all(x::ring) + ", cause " + x.cause(0) + " " + x.cause(1) + " " + x.cause(2) + " "
            + x.cause(3);
    }

    /** What later calls answer, as far as it shows what is kept inside: the group, the past, the steps, the makers. */
    static String later(ShadowOrder x) {
        StringBuilder b = new StringBuilder(" later ").append(answer(x, ShadowOrder::end));
        String undone = "";
        for (int n = 0; n < 61 && !undone.equals("-1") && !undone.equals(STATE); n++) {
            undone = answer(x, ShadowOrder::undo);
            b.append(' ').append(undone);
        }
        b.append(' ').append(answer(x, y -> y.step(0, 7))).append(' ').append(answer(x, y -> y.maker(8)));
        b.append(' ').append(answer(x, ShadowOrder::open));
        int lists = x.count(1);
        for (int l = 0; l < lists; l++) {
            b.append(" / ").append(row(x, l));
            for (int kind = 6; kind < 9; kind++) {
                b.append(' ').append(x.listShadow(l, kind));
            }
        }
        return b.toString();
    }

    static String all(Told told) {
        StringBuilder b = new StringBuilder();
        int cell = told.tell(0);
        for (int k = 1; cell != NONE; k++) {
            b.append(k == 1 ? "" : " ").append(cell);
            cell = told.tell(k);
        }
        return b.toString();
    }

    static String row(ShadowOrder x, int list) {
        return all(p -> x.at(list, p));
    }

    static String standing(ShadowOrder x, int t) {
        return x.where(t, 0) + " " + x.where(t, 1) + " " + x.where(t, 2) + " " + x.where(t, 3) + " " + x.where(t, 4)
            + " "
            + x.where(t, 5);
    }

    static String frozen(ShadowOrder x, int things) {
        StringBuilder b = new StringBuilder();
        for (int t = 0; t < things; t++) {
            b.append(x.where(t, 5));
        }
        return b.toString();
    }

    /** Things of the facts 10 t + 0 .. 3, and lists of the facts 100 l + 0, 1. */
    static ShadowOrder book(int things, int lists) {
        ShadowOrder x = new ShadowOrder();
        for (int t = 0; t < things; t++) {
            x.thing(10 * t, 10 * t + 1, 10 * t + 2, 10 * t + 3);
        }
        for (int l = 0; l < lists; l++) {
            x.list(100 * l, 100 * l + 1);
        }
        return x;
    }

    static int make(ShadowOrder x, int kind, int... codesAndNumbers) {
        for (int i = 0; i + 1 < codesAndNumbers.length; i += 2) {
            x.step(codesAndNumbers[i], codesAndNumbers[i + 1]);
        }
        return x.maker(kind);
    }

    static ShadowOrder made(ShadowOrder x, int kind, int... codesAndNumbers) {
        due("maker(" + kind + ")", make(x, kind, codesAndNumbers), 0);
        return x;
    }

    static ShadowOrder opened(ShadowOrder x) {
        x.open();
        return x;
    }

    /** Things come, in their order, to the end of a list. */
    static ShadowOrder stand(ShadowOrder x, int list, int... things) {
        int n = 0;
        while (x.at(list, n) != NONE) {
            n++;
        }
        for (int t : things) {
            x.place(t, list, n);
            n++;
        }
        return x;
    }

    static int behind(int kind, int numbers, int code, int v) {
        ShadowOrder x = new ShadowOrder();
        for (int i = 0; i < numbers; i++) {
            x.step(0, 1);
        }
        x.step(code, v);
        return x.maker(kind);
    }

    static int onEight(int kind, int code, int v) {
        return behind(kind, 8, code, v);
    }

    static boolean accepts(int kind, int code, int v) {
        int lead = code >= 0 && code < TAKES.length ? TAKES[code] : 3;
        return behind(kind, lead, code, v) != -1 - lead;
    }

    static String rowOfSteps(int n, int code) {
        ShadowOrder x = new ShadowOrder();
        for (int i = 0; i < n; i++) {
            x.step(code, 0);
        }
        return "" + x.maker(0);
    }

    static int[] with(int[] steps, int... more) {
        int[] row = java.util.Arrays.copyOf(steps, steps.length + more.length);
        System.arraycopy(more, 0, row, steps.length, more.length);
        return row;
    }

    /** Kind 0: a running sum of fact 0 along the list; kind 6: the sum of these, kind 7: the last of them or -7. */
    static ShadowOrder sums(int things, int lists) {
        ShadowOrder x = book(things, lists);
        make(x, 0, 0, 0, 5, 0, 1, 0, 14, 0);
        make(x, 6, 9, 0);
        make(x, 7, 0, -7, 13, 0);
        return opened(x);
    }

    /** Things 0, 1, 2 in list 0, of which 0 is frozen; 3 in list 1; 4 in none. */
    static ShadowOrder five() {
        ShadowOrder x = stand(stand(sums(5, 2), 0, 0, 1, 2), 1, 3);
        x.freeze(0, 1);
        return x;
    }

    /** Things 0 .. 3 in list 0, things 4, 5 in list 1. */
    static ShadowOrder six() {
        return stand(stand(sums(6, 2), 0, 0, 1, 2, 3), 1, 4, 5);
    }

    /** Four things in list 0 of which two are frozen, two in list 1 of which one is frozen, one in none. */
    static ShadowOrder seven() {
        ShadowOrder x = stand(stand(sums(7, 2), 0, 0, 1, 2, 3), 1, 4, 5);
        x.freeze(0, 2);
        x.freeze(1, 1);
        return x;
    }

    /** Kind 0: 60 / fact 0; kind 1: its link's kind 1; kind 6: their sum. 1, 2 stand in list 0, 3 in list 1. */
    static ShadowOrder fragile() {
        ShadowOrder x = made(made(made(book(4, 2), 0, 0, 60, 1, 0, 17, 0), 1, 0, 8, 7, 1), 6, 9, 0);
        stand(stand(opened(x), 0, 1, 2), 1, 3);
        x.link(1, 2);
        return x;
    }

    static ShadowOrder fragileGroup() {
        ShadowOrder x = fragile();
        x.begin();
        x.fact(2, 1, 5);
        x.link(2, 3);
        return x;
    }

    static ShadowOrder openBook() {
        ShadowOrder x = book(2, 2);
        make(x, 0, 1, 0);
        make(x, 6, 9, 0);
        x.step(0, 5);
        return x;
    }

    static long begins(ShadowOrder x) {
        x.begin();
        return 0;
    }
}
