/** One test or more for each promise of the document, by its number; the answers due were worked out by hand. */
public final class PromiseTests {
    private static final int NONE = ShadowOrder.NONE;
    private static final int REFUSED = ShadowOrder.REFUSED;
    private static final int FAILED = ShadowOrder.FAILED;
    private static final int KEPT = ShadowOrder.KEPT;
    private static final int NO = ShadowOrder.NO;
    private static final Class<?> INDEX = IndexOutOfBoundsException.class;
    private static final Class<?> STATE = IllegalStateException.class;
    private static final Class<?> ARGUMENT = IllegalArgumentException.class;

    private static int promise;
    private static int wrong;
    private static int asked;

    public static void main(String[] args) {
        promise = 1;
        aNewObject();
        promise = 2;
        things();
        promise = 3;
        lists();
        promise = 4;
        steps();
        promise = 5;
        whichStepsAre();
        whatMakersAnswer();
        whatStepsWork();
        whatStepsLookAt();
        promise = 6;
        opening();
        promise = 7;
        placing();
        promise = 8;
        taking();
        promise = 9;
        moving();
        promise = 10;
        swapping();
        promise = 11;
        turning();
        promise = 12;
        crossingTails();
        promise = 13;
        factsOfThings();
        promise = 14;
        factsOfLists();
        promise = 15;
        links();
        promise = 16;
        freezing();
        frozenCells();
        promise = 17;
        beginning();
        promise = 18;
        ending();
        groupsAsOneMove();
        promise = 19;
        dropping();
        promise = 20;
        undoing();
        undoingSixty();
        promise = 21;
        shadows();
        promise = 22;
        shadowsOfLists();
        promise = 23;
        where();
        promise = 24;
        at();
        promise = 25;
        worked();
        touched();
        promise = 26;
        order();
        promise = 27;
        rings();
        promise = 28;
        causes();
        promise = 29;
        counts();
        promise = 30;
        same();
        System.out.println(asked + " answers asked, " + wrong + " are not as due");
        if (wrong != 0) {
            System.exit(1);
        }
    }

    // ------------------------------------------------------------------ helpers

    private static void due(String what, long got, long want) {
        asked++;
        if (got != want) {
            wrong++;
            System.out.println("promise " + promise + ": " + what + " answered " + got + ", due is " + want);
        }
    }

    private static void due(String what, String got, String want) {
        asked++;
        if (!got.equals(want)) {
            wrong++;
            System.out.println("promise " + promise + ": " + what + " is\n  " + got + ", due is\n  " + want);
        }
    }

    private static void thrown(String what, ShadowOrder x, Class<?> want, Runnable call) {
        asked++;
        String before = everything(x);
        Class<?> got = null;
        try {
            call.run();
        } catch (RuntimeException e) {
            got = e.getClass();
        }
        if (got != want) {
            wrong++;
            System.out.println("promise " + promise + ": " + what + " threw " + got + ", due is " + want);
        }
        due("what is told behind " + what, everything(x), before);
    }

    /** A book with things of the facts 10 t + 0 .. 3, and lists of the facts 100 l + 0, 1. */
    private static ShadowOrder book(int things, int lists) {
        ShadowOrder x = new ShadowOrder();
        for (int t = 0; t < things; t++) {
            x.thing(10 * t, 10 * t + 1, 10 * t + 2, 10 * t + 3);
        }
        for (int l = 0; l < lists; l++) {
            x.list(100 * l, 100 * l + 1);
        }
        return x;
    }

    private static int make(ShadowOrder x, int kind, int... codesAndNumbers) {
        for (int i = 0; i + 1 < codesAndNumbers.length; i += 2) {
            x.step(codesAndNumbers[i], codesAndNumbers[i + 1]);
        }
        return x.maker(kind);
    }

    /** Kind 0: a running sum of fact 0; kind 1: place and count; kind 6: the sum of kind 0; kind 7: the last of it. */
    private static ShadowOrder sums(int things, int lists) {
        ShadowOrder x = book(things, lists);
        make(x, 0, 0, 0, 5, 0, 1, 0, 14, 0);
        make(x, 1, 3, 0, 0, 100, 16, 0, 3, 1, 14, 0);
        make(x, 6, 9, 0);
        make(x, 7, 0, -7, 13, 0);
        x.open();
        return x;
    }

    private static void placeAll(ShadowOrder x, int list, int... things) {
        for (int t : things) {
            x.place(t, list, x.where(t, 0) == list ? 0 : size(x, list));
        }
    }

    private static int size(ShadowOrder x, int list) {
        int n = 0;
        while (x.at(list, n) != NONE) {
            n++;
        }
        return n;
    }

    private static String row(ShadowOrder x, int list) {
        StringBuilder b = new StringBuilder();
        for (int p = 0; x.at(list, p) != NONE; p++) {
            b.append(p == 0 ? "" : " ").append(x.at(list, p));
        }
        return b.toString();
    }

    private interface Told {
        int tell(int k);
    }

    private static String all(Told told) {
        StringBuilder b = new StringBuilder();
        for (int k = 0; told.tell(k) != NONE; k++) {
            b.append(k == 0 ? "" : " ").append(told.tell(k));
        }
        return b.toString();
    }

    private static String plan(ShadowOrder x) {
        StringBuilder b = new StringBuilder();
        for (int t = 0; t < x.count(0); t++) {
            for (int w = 0; w < 10; w++) {
                b.append(x.where(t, w)).append(w == 9 ? ";" : ",");
            }
        }
        for (int l = 0; l < x.count(1); l++) {
            b.append(" list ").append(row(x, l));
        }
        return b.toString();
    }

    private static String numbers(ShadowOrder x) {
        StringBuilder b = new StringBuilder();
        for (int t = 0; t < x.count(0); t++) {
            for (int k = 0; k < 6; k++) {
                b.append(x.shadow(t, k)).append(k == 5 ? ";" : ",");
            }
        }
        for (int l = 0; l < x.count(1); l++) {
            for (int k = 6; k < 9; k++) {
                b.append(x.listShadow(l, k)).append(k == 8 ? ";" : ",");
            }
        }
        return b + " order " + all(x::order);
    }

    /** All but what cause(), ring() and count(5) tell. */
    private static String mostOfIt(ShadowOrder x) {
        StringBuilder b = new StringBuilder(plan(x)).append(" | ").append(numbers(x));
        b.append(" | worked ").append(all(x::worked)).append(" | counts");
        for (int w = 0; w < 7; w++) {
            b.append(' ').append(w == 5 ? "" : x.count(w));
        }
        return b.toString();
    }

    private static String everything(ShadowOrder x) {
        return mostOfIt(x) + " | ring " + all(x::ring) + " | cause " + x.cause(0) + " " + x.cause(1) + " " + x.cause(2)
            + " " + x.cause(3) + " | refused " + x.count(5);
    }

    // ------------------------------------------------------------------ the book

    private static void aNewObject() {
        ShadowOrder x = new ShadowOrder();
        for (int w = 0; w < 7; w++) {
            due("count(" + w + ")", x.count(w), 0);
        }
        due("order(0)", x.order(0), NONE);
        due("worked(0)", x.worked(0), NONE);
        due("ring(0)", x.ring(0), NONE);
        due("cause(0)", x.cause(0), 0);
        due("cause(1)", x.cause(1), NONE);
        due("cause(2)", x.cause(2), NONE);
        due("cause(3)", x.cause(3), NONE);
        due("isSame()", x.isSame() ? 1 : 0, 1);
        thrown("at(0, 0)", x, INDEX, () -> x.at(0, 0));
        thrown("shadow(0, 0)", x, INDEX, () -> x.shadow(0, 0));
        thrown("listShadow(0, 6)", x, INDEX, () -> x.listShadow(0, 6));
        thrown("where(0, 0)", x, INDEX, () -> x.where(0, 0));
        thrown("begin()", x, STATE, x::begin);
        thrown("end()", x, STATE, x::end);
        thrown("drop()", x, STATE, x::drop);
        thrown("undo()", x, STATE, x::undo);
        due("open() of an empty book", x.open(), 0);
        due("undo() of nothing", x.undo(), NONE);
        ShadowOrder y = new ShadowOrder();
        due("the constants", "" + ShadowOrder.NONE + ShadowOrder.REFUSED + ShadowOrder.FAILED + ShadowOrder.KEPT
            + ShadowOrder.NO, "-1-1-2-3-4");
        due("thing() of another object", y.thing(1, 2, 3, 4), 0);
        due("things of the first", x.count(0), 0);
    }

    private static void things() {
        ShadowOrder x = new ShadowOrder();
        due("the first", x.thing(Integer.MIN_VALUE, -1, 0, Integer.MAX_VALUE), 0);
        for (int t = 1; t < 40; t++) {
            due("the next", x.thing(t, 2 * t, 3 * t, 4 * t), t);
        }
        thrown("the 41st", x, STATE, () -> x.thing(0, 0, 0, 0));
        due("count(0)", x.count(0), 40);
        due("fact 0", x.where(0, 6), Integer.MIN_VALUE);
        due("fact 3", x.where(0, 9), Integer.MAX_VALUE);
        due("fact 1 of the last", x.where(39, 7), 78);
        due("fact 2 of the last", x.where(39, 8), 117);
        due("its list", x.where(39, 0), NONE);
        due("its link", x.where(39, 4), NONE);
        ShadowOrder y = book(1, 0);
        y.open();
        thrown("thing() in a closed book", y, STATE, () -> y.thing(0, 0, 0, 0));
    }

    private static void lists() {
        ShadowOrder x = new ShadowOrder();
        for (int l = 0; l < 6; l++) {
            due("list()", x.list(l, 7 * l), l);
        }
        thrown("the 7th", x, STATE, () -> x.list(0, 0));
        due("count(1)", x.count(1), 6);
        make(x, 6, 1, 0);
        make(x, 7, 1, 1);
        due("open()", x.open(), 12);
        due("fact 0 of the last", x.listShadow(5, 6), 5);
        due("fact 1 of the last", x.listShadow(5, 7), 35);
        thrown("list() in a closed book, 6 lists", x, STATE, () -> x.list(0, 0));
        ShadowOrder y = book(0, 1);
        y.open();
        thrown("list() in a closed book", y, STATE, () -> y.list(0, 0));
        due("it stands empty", x.at(0, 0), NONE);
    }

    private static void steps() {
        ShadowOrder x = book(0, 1);
        for (int s = 1; s <= 24; s++) {
            due("step()", x.step(-5 + s, 1 << s), s);
        }
        thrown("the 25th", x, STATE, () -> x.step(0, 0));
        due("maker() of no steps at all", x.maker(6), -1);
        due("step() behind it", x.step(0, 4), 1);
        due("maker()", x.maker(6), 0);
        due("step()", x.step(0, 5), 1);
        x.open();
        due("v counts", x.listShadow(0, 6), 4);
        thrown("step() in a closed book", x, STATE, () -> x.step(0, 0));
        ShadowOrder y = book(0, 1);
        int[] row = new int[48];
        for (int s = 2; s < 24; s++) {
            row[2 * s] = s % 2 == 0 ? 22 : 14;
        }
        due("24 steps, of which the last leaves two numbers", make(y, 6, row), -25);
        row[44] = 23;
        due("24 steps that leave one", make(y, 6, row), 0);
    }

    private static int kindsOk(int code, int v, int kind) {
        ShadowOrder x = new ShadowOrder();
        int lead = code == 20 ? 3 : code >= 14 && code != 21 && code != 22 && code != 24 ? 2
            : code >= 5 && code != 8 && code != 9 ? 1 : 0;
        for (int i = 0; i < lead; i++) {
            x.step(0, 1);
        }
        x.step(code, v);
        int answer = x.maker(kind);
        return answer == -1 - lead ? 0 : 1;
    }

    /** The numbers v that a code takes, of -1 .. 9, as a text of their digits; all: "*". */
    private static String taken(int code, int kind) {
        StringBuilder b = new StringBuilder();
        for (int v = -1; v <= 9; v++) {
            if (kindsOk(code, v, kind) == 1) {
                b.append(v);
            }
        }
        boolean all = b.toString().equals("-10123456789") && kindsOk(code, Integer.MIN_VALUE, kind) == 1;
        return all ? "*" : b.toString();
    }

    private static void whichStepsAre() {
        String[] ofThings = {"*", "0123", "01", "01", "012345", "012345", "012345", "012345", "678", "", "", "", "", ""};
        String[] ofLists = {"*", "01", "", "1", "678", "", "", "", "", "012345", "012345", "012345", "012345", "012345"};
        for (int code = 0; code < 14; code++) {
            for (int kind = 0; kind < 9; kind++) {
                due("v of code " + code + ", kind " + kind, taken(code, kind), kind < 6 ? ofThings[code] : ofLists[code]);
            }
        }
        for (int kind = 0; kind < 9; kind++) {
            due("step 20 with 3 numbers", make(new ShadowOrder(), kind, 0, 1, 0, 1, 0, 1, 20, -9), 0);
            due("step 20 with 2 numbers", make(new ShadowOrder(), kind, 0, 1, 0, 1, 20, 0), -3);
            for (int code = 14; code <= 19; code++) {
                due("a step of two", make(new ShadowOrder(), kind, 0, 1, 0, 1, code, 12345), 0);
                due("a step of two with one", make(new ShadowOrder(), kind, 0, 1, code, 0), -2);
            }
            due("21 without a number", make(new ShadowOrder(), kind, 21, 0), -1);
            due("22 without a number", make(new ShadowOrder(), kind, 22, 0), -1);
            due("23 with one", make(new ShadowOrder(), kind, 0, 1, 23, 0), -2);
            due("24 without a number", make(new ShadowOrder(), kind, 24, 0), -1);
            due("21 takes one", make(new ShadowOrder(), kind, 0, 1, 0, 0, 21, -1), 0);
            due("22 makes two", make(new ShadowOrder(), kind, 0, 1, 22, 0, 14, 0), 0);
            due("23 leaves two", make(new ShadowOrder(), kind, 0, 1, 0, 2, 23, 0, 15, 0), 0);
            due("24 takes one", make(new ShadowOrder(), kind, 0, 1, 0, 2, 24, 0), 0);
            due("code 25", make(new ShadowOrder(), kind, 0, 1, 25, 0), -2);
            due("code -1", make(new ShadowOrder(), kind, -1, 0), -1);
            due("the least code", make(new ShadowOrder(), kind, Integer.MIN_VALUE, 0), -1);
            due("the greatest code", make(new ShadowOrder(), kind, 0, 0, Integer.MAX_VALUE, 0), -2);
        }
        for (int code = 5; code <= 7; code++) {
            due("a look without a number", make(new ShadowOrder(), 0, code, 0), -1);
        }
        for (int code = 10; code <= 13; code++) {
            due("a look without a number", make(new ShadowOrder(), 6, code, 0), -1);
        }
    }

    private static void whatMakersAnswer() {
        ShadowOrder x = book(1, 1);
        int[] eight = new int[16 + 14];
        for (int i = 0; i < 7; i++) {
            eight[16 + 2 * i] = 14;
        }
        due("a stack of 8", make(x, 0, eight), 0);
        int[] nine = new int[18];
        due("a stack of 9", make(x, 0, nine), -9);
        due("22 onto a stack of 8", make(x, 0, 0, 0, 0, 0, 0, 0, 0, 0, 0, 0, 0, 0, 0, 0, 0, 0, 22, 0), -9);
        due("two are left", make(x, 0, 0, 1, 0, 2), -3);
        due("none is left", make(x, 0, 0, 1, 24, 0), -3);
        due("no steps", x.maker(0), -1);
        due("a bad step ahead of too many left", make(x, 0, 0, 1, 0, 2, 9, 0, 0, 3), -3);
        due("the first bad step of two", make(x, 6, 0, 1, 2, 0, 14, 0), -2);
        x.step(0, 3);
        thrown("maker(-1)", x, ARGUMENT, () -> x.maker(-1));
        thrown("maker(9)", x, ARGUMENT, () -> x.maker(9));
        due("the step is still there", x.step(22, 0), 2);
        due("it is not one number", x.maker(8), -3);
        due("the steps are gone", x.step(0, 9), 1);
        due("maker()", x.maker(6), 0);
        due("a bad maker leaves the one before", make(x, 6, 24, 0), -1);
        due("a maker in place of another", make(x, 7, 0, 1), 0);
        due("a maker in place of another", make(x, 7, 0, 2), 0);
        due("a shorter maker in place of another", make(x, 0, 0, 77), 0);
        x.open();
        due("the one before", x.listShadow(0, 6), 9);
        due("the later one", x.listShadow(0, 7), 2);
        due("no maker", x.listShadow(0, 8), 0);
        x.place(0, 0, 0);
        due("the shorter one", x.shadow(0, 0), 77);
        thrown("maker() in a closed book", x, STATE, () -> x.maker(0));
        thrown("maker(9) in a closed book", x, STATE, () -> x.maker(9));
    }

    private static long worth(int... steps) {
        ShadowOrder x = new ShadowOrder();
        x.list(6, 7);
        due("maker()", make(x, 6, steps), 0);
        return x.open() == 1 ? x.listShadow(0, 6) : 1000 * x.cause(2) + x.cause(3) + 1_000_000;
    }

    private static void whatStepsWork() {
        int great = 1_000_000_000;
        due("0", worth(0, Integer.MIN_VALUE), Integer.MIN_VALUE);
        due("1", worth(1, 1), 7);
        due("14", worth(0, 5, 0, -8, 14, 0), -3);
        due("15", worth(0, 5, 0, 8, 15, 0), -3);
        due("16", worth(0, 5, 0, -8, 16, 0), -40);
        due("17", worth(0, 17, 0, 5, 17, 0), 3);
        due("17 below 0", worth(0, -17, 0, 5, 17, 0), -3);
        due("17 by one below 0", worth(0, 17, 0, -5, 17, 0), -3);
        due("17 by 0", worth(0, 17, 0, 0, 17, 0), 1_001_002);
        due("17, 0 by 0", worth(0, 0, 0, 0, 17, 0), 1_001_002);
        due("18", worth(0, 5, 0, -8, 18, 0), -8);
        due("19", worth(0, 5, 0, -8, 19, 0), 5);
        due("20 above 0", worth(0, 1, 0, 20, 0, 30, 20, 0), 20);
        due("20 at 0", worth(0, 0, 0, 20, 0, 30, 20, 0), 30);
        due("20 below 0", worth(0, -1, 0, 20, 0, 30, 20, 0), 30);
        due("21 with 0", worth(0, 4, 0, 0, 21, 0), 4);
        due("21 with 1", worth(0, 4, 0, 1, 21, 0), 1_002_002);
        due("21 with -1", worth(0, 4, 0, -1, 21, 0), 1_002_002);
        due("22", worth(0, 4, 22, 0, 16, 0), 16);
        due("23", worth(0, 4, 0, 9, 23, 0, 15, 0), 5);
        due("24", worth(0, 4, 0, 9, 24, 0), 4);
        due("10^15", worth(0, great, 0, 1_000_000, 16, 0), 1_000_000_000_000_000L);
        due("-10^15", worth(0, great, 0, -1_000_000, 16, 0), -1_000_000_000_000_000L);
        due("10^15 + 1", worth(0, great, 0, 1_000_000, 16, 0, 0, 1, 14, 0), 1_003_004);
        due("-10^15 - 1", worth(0, great, 0, -1_000_000, 16, 0, 0, 1, 15, 0), 1_003_004);
        due("10^15 times 10^15", worth(0, great, 0, 1_000_000, 16, 0, 22, 0, 16, 0), 1_003_004);
        due("2^64 wraps to 0", worth(0, 1 << 30, 0, 4, 16, 0, 22, 0, 16, 0), 1_003_004);
        due("0 times 10^15", worth(0, great, 0, 1_000_000, 16, 0, 0, 0, 16, 0), 0);
        due("10^15 times 0", worth(0, 0, 0, great, 0, 1_000_000, 16, 0, 16, 0), 0);
        due("a number that is dropped counts, too", worth(0, 5, 0, great, 22, 0, 16, 0, 24, 0), 1_003_003);
        due("the first step that fails", worth(0, 1, 0, 0, 17, 0, 21, 0, 0, 4), 1_001_002);
    }

    private static void whatStepsLookAt() {
        ShadowOrder x = book(4, 2);
        make(x, 0, 1, 0);
        make(x, 1, 2, 1);
        make(x, 2, 0, -1, 5, 0, 0, 1000, 16, 0, 0, -2, 6, 0, 14, 0);
        make(x, 3, 0, -3, 7, 0);
        make(x, 4, 8, 6, 4, 0, 14, 0);
        make(x, 5, 3, 0, 0, 10, 16, 0, 3, 1, 14, 0);
        make(x, 6, 3, 1, 1, 1, 16, 0);
        make(x, 7, 0, -5, 10, 0, 0, 1000, 16, 0, 0, -6, 11, 0, 14, 0);
        make(x, 8, 0, -5, 12, 0, 0, 1000, 16, 0, 0, -6, 13, 0, 14, 0, 9, 0, 14, 0);
        due("open()", x.open(), 6);
        due("10, 11 without things", x.listShadow(1, 7), -5006);
        due("12, 13, 9 without things", x.listShadow(1, 8), -5006);
        x.link(0, 3);
        x.place(2, 1, 0);
        x.place(1, 1, 1);
        x.place(0, 1, 2);
        due("1", x.shadow(2, 0), 20);
        due("2", x.shadow(2, 1), 101);
        due("5 none, 6", x.shadow(2, 2), -1000 + 10);
        due("5, 6", x.shadow(1, 2), 20000);
        due("5, 6 none", x.shadow(0, 2), 10000 - 2);
        due("7, a link that stands in no list", x.shadow(0, 3), -3);
        due("7 without a link", x.shadow(1, 3), -3);
        due("3", x.shadow(1, 5), 13);
        due("3 1 and 1 of lists", x.listShadow(1, 6), 303);
        due("8 and 4", x.shadow(1, 4), 313);
        due("10, 11", x.listShadow(1, 7), 20000);
        due("12, 13, 9", x.listShadow(1, 8), 20000 + 0 + 30);
        x.place(3, 0, 0);
        due("7", x.shadow(0, 3), 30);
        ShadowOrder y = book(1, 1);
        make(y, 1, 0, 4, 4, 0, 14, 0);
        make(y, 7, 0, 4, 4, 6, 14, 0, 9, 3, 14, 0);
        y.open();
        y.place(0, 0, 0);
        due("a kind of things without a maker is 0", y.shadow(0, 1), 4);
        due("kinds without a maker are 0", y.listShadow(0, 7), 4);
        ShadowOrder z = book(3, 1);
        make(z, 0, 1, 0, 0, 1_000_000, 16, 0);
        make(z, 6, 9, 0);
        z.open();
        z.fact(0, 0, 900_000_000);
        z.fact(1, 0, 900_000_000);
        z.fact(2, 0, -900_000_000);
        z.place(0, 0, 0);
        due("a sum that is too great", z.place(1, 0, 0), FAILED);
        z.place(2, 0, 0);
        due("the whole sum counts, not its parts", z.place(1, 0, 1), 2);
        due("the whole sum", z.listShadow(0, 6), 900_000_000_000_000L);
    }

    private static void opening() {
        ShadowOrder x = book(2, 2);
        make(x, 0, 0, 1);
        make(x, 6, 1, 0);
        make(x, 7, 4, 6, 0, 1, 14, 0);
        due("open()", x.open(), 4);
        due("worked", all(x::worked), "240 241 243 244");
        due("order", all(x::order), "240 241 243 244");
        due("listShadow", x.listShadow(1, 7), 101);
        due("it can't be undone", x.undo(), NONE);
        thrown("open() again", x, STATE, x::open);

        ShadowOrder ring = book(1, 1);
        make(ring, 6, 4, 7);
        make(ring, 7, 4, 6);
        due("a ring", ring.open(), REFUSED);
        due("the ring", all(ring::ring), "240 241");
        due("why", ring.cause(0), 1);
        due("it is open: order", ring.order(0), NONE);
        due("it is open: cells", ring.count(2), 0);
        due("it is open: worked", ring.worked(0), NONE);
        due("refused", ring.count(5), 1);
        thrown("place() then", ring, STATE, () -> ring.place(0, 0, 0));
        due("thing() then", ring.thing(1, 2, 3, 4), 1);
        make(ring, 7, 0, 5);
        due("without the ring", ring.open(), 2);
        due("the numbers", ring.listShadow(0, 6), 5);
        due("why", ring.cause(0), 0);
        due("no ring", ring.ring(0), NONE);

        ShadowOrder fails = book(0, 2);
        make(fails, 6, 0, 1, 1, 0, 21, 0);
        due("a maker fails", fails.open(), FAILED);
        due("which", fails.cause(1), 243);
        due("worked", fails.worked(0), NONE);
        due("worked in all", fails.count(4), 0);
        due("the list's number", fails.listShadow(0, 6), 0);
        due("list() then", fails.list(0, 0), 2);
    }

    // ------------------------------------------------------------------ moves

    private static void placing() {
        ShadowOrder open = book(1, 1);
        thrown("place() of no thing, the book open", open, INDEX, () -> open.place(1, 0, 0));
        thrown("place() in no list, the book open", open, INDEX, () -> open.place(0, 1, 0));
        thrown("place(), the book open", open, STATE, () -> open.place(0, 0, 9));
        ShadowOrder x = sums(4, 2);
        thrown("place(-1, ..)", x, INDEX, () -> x.place(-1, 0, 9));
        thrown("place(4, ..)", x, INDEX, () -> x.place(4, 0, 9));
        thrown("place(.., -1, ..)", x, INDEX, () -> x.place(0, -1, 9));
        thrown("place(.., 2, ..)", x, INDEX, () -> x.place(0, 2, 9));
        thrown("place(.., -1)", x, ARGUMENT, () -> x.place(0, 0, -1));
        thrown("place(.., 1) in an empty list", x, ARGUMENT, () -> x.place(0, 0, 1));
        due("the first", x.place(2, 0, 0), 4);
        due("at the end", x.place(1, 0, 1), 5);
        due("at the front", x.place(3, 0, 0), 8);
        due("in the middle", x.place(0, 0, 1), 7);
        due("the row", row(x, 0), "3 0 2 1");
        due("a running sum", x.shadow(1, 0), 60);
        due("the sum", x.listShadow(0, 6), 30 + 30 + 50 + 60);
        due("place and count", x.shadow(2, 1), 204);
        thrown("it stands, at is wrong", x, ARGUMENT, () -> x.place(0, 1, 1));
        String before = everything(x);
        due("it stands", x.place(0, 1, 0), NO);
        due("NO changes nothing", everything(x), before);
        x.freeze(0, 2);
        x.take(1);
        before = everything(x);
        due("before a frozen one", x.place(1, 0, 1), KEPT);
        due("at the front of frozen ones", x.place(1, 0, 0), KEPT);
        due("NO ahead of KEPT", x.place(2, 0, 0), NO);
        due("KEPT changes nothing", everything(x), before);
        due("behind the frozen ones", x.place(1, 0, 2), 6);
        due("the row", row(x, 0), "3 0 1 2");
        due("only two are frozen", x.where(1, 5), 0);
    }

    private static void taking() {
        ShadowOrder open = book(1, 1);
        thrown("take() of no thing, the book open", open, INDEX, () -> open.take(1));
        thrown("take(), the book open", open, STATE, () -> open.take(0));
        ShadowOrder x = sums(4, 2);
        thrown("take(-1)", x, INDEX, () -> x.take(-1));
        thrown("take(4)", x, INDEX, () -> x.take(4));
        due("it stands in none", x.take(0), NO);
        placeAll(x, 0, 1, 2, 3);
        due("the middle one", x.take(2), 5);
        due("worked", all(x::worked), "7 18 19 240 241");
        due("the row", row(x, 0), "1 3");
        due("its list", x.where(2, 0), NONE);
        due("its place", x.where(2, 1), NONE);
        due("its shadow", x.shadow(2, 0), 0);
        due("cells", x.count(2), 8);
        x.freeze(0, 1);
        due("a frozen one", x.take(1), KEPT);
        due("the one behind it", x.take(3), 2);
        due("none is left but the frozen one", row(x, 0), "1");
    }

    private static void moving() {
        ShadowOrder open = book(1, 1);
        thrown("move() of no thing, the book open", open, INDEX, () -> open.move(1, 0, 0));
        thrown("move() to no list, the book open", open, INDEX, () -> open.move(0, 1, 0));
        thrown("move(), the book open", open, STATE, () -> open.move(0, 0, -1));
        ShadowOrder x = sums(5, 2);
        placeAll(x, 0, 0, 1, 2, 3);
        thrown("move(-1, ..)", x, INDEX, () -> x.move(-1, 0, 0));
        thrown("move(.., 2, ..)", x, INDEX, () -> x.move(0, 2, 0));
        thrown("at -1", x, ARGUMENT, () -> x.move(0, 0, -1));
        thrown("at 4 of 3 others", x, ARGUMENT, () -> x.move(0, 0, 4));
        thrown("at 1 of none", x, ARGUMENT, () -> x.move(0, 1, 1));
        thrown("one that stands in none, at 5 of 4", x, ARGUMENT, () -> x.move(4, 0, 5));
        due("one that stands in none, at 4 of 4", x.move(4, 0, 4), NO);
        due("to the end", x.move(0, 0, 3), 8);
        due("the row", row(x, 0), "1 2 3 0");
        due("to the front", x.move(3, 0, 0), 8);
        due("the row", row(x, 0), "3 1 2 0");
        due("to where it stands", x.move(1, 0, 1), 0);
        due("the row", row(x, 0), "3 1 2 0");
        due("it is kept all the same", x.count(3), 7);
        due("to another list", x.move(1, 1, 0), 11);
        due("the rows", row(x, 0) + "/" + row(x, 1), "3 2 0/1");
        x.freeze(0, 2);
        due("a frozen one", x.move(2, 0, 2), KEPT);
        due("a frozen one, to another list", x.move(2, 1, 0), KEPT);
        due("a frozen one, to the other place", x.move(2, 0, 0), KEPT);
        due("a frozen one, to where it stands", x.move(2, 0, 1), 0);
        due("it is still frozen", x.where(2, 5), 1);
        due("one behind them, in front of one", x.move(0, 0, 1), KEPT);
        due("one of another list, in front of one", x.move(1, 0, 0), KEPT);
        due("one of another list, behind them", x.move(1, 0, 2), 8);
        due("the row", row(x, 0), "3 2 1 0");
        thrown("at is asked ahead of KEPT", x, ARGUMENT, () -> x.move(3, 0, 4));
    }

    private static void swapping() {
        ShadowOrder open = book(2, 1);
        thrown("swap() of no thing, the book open", open, INDEX, () -> open.swap(0, 2));
        thrown("swap() of one, the book open", open, STATE, () -> open.swap(0, 0));
        ShadowOrder x = sums(5, 2);
        placeAll(x, 0, 0, 1, 2);
        placeAll(x, 1, 3);
        thrown("swap(-1, 0)", x, INDEX, () -> x.swap(-1, 0));
        thrown("swap(0, -1)", x, INDEX, () -> x.swap(0, -1));
        thrown("swap(5, 5)", x, INDEX, () -> x.swap(5, 5));
        thrown("one and the same", x, ARGUMENT, () -> x.swap(0, 0));
        thrown("one and the same, in no list", x, ARGUMENT, () -> x.swap(4, 4));
        due("the other stands in none", x.swap(0, 4), NO);
        due("the one stands in none", x.swap(4, 0), NO);
        due("neighbours", x.swap(0, 1), 6);
        due("the row", row(x, 0), "1 0 2");
        due("of two lists", x.swap(1, 3), 8);
        due("the rows", row(x, 0) + "/" + row(x, 1), "3 0 2/1");
        due("its place", x.where(1, 0) * 10 + x.where(1, 1), 10);
        x.freeze(0, 1);
        due("the one is frozen", x.swap(3, 2), KEPT);
        due("the other is frozen", x.swap(1, 3), KEPT);
        due("NO ahead of KEPT", x.swap(3, 4), NO);
        due("behind the frozen one", x.swap(0, 2), 6);
        due("the row", row(x, 0), "3 2 0");
    }

    private static void turning() {
        ShadowOrder open = book(2, 1);
        thrown("turn() of no list, the book open", open, INDEX, () -> open.turn(1, 0, 0));
        thrown("turn(), the book open", open, STATE, () -> open.turn(0, 0, 0));
        ShadowOrder x = sums(6, 2);
        thrown("an empty list", x, ARGUMENT, () -> x.turn(0, 0, 0));
        placeAll(x, 0, 0, 1, 2, 3, 4);
        thrown("turn(-1, ..)", x, INDEX, () -> x.turn(-1, 0, 0));
        thrown("turn(2, ..)", x, INDEX, () -> x.turn(2, 0, 0));
        thrown("from -1", x, ARGUMENT, () -> x.turn(0, -1, 2));
        thrown("to below from", x, ARGUMENT, () -> x.turn(0, 2, 1));
        thrown("to is no place", x, ARGUMENT, () -> x.turn(0, 2, 5));
        due("three", x.turn(0, 1, 3), 7);
        due("the row", row(x, 0), "0 3 2 1 4");
        due("all", x.turn(0, 0, 4), 11);
        due("the row", row(x, 0), "4 1 2 3 0");
        due("two", x.turn(0, 3, 4), 6);
        due("the row", row(x, 0), "4 1 2 0 3");
        due("one", x.turn(0, 4, 4), 0);
        due("its place", x.where(3, 1), 4);
        x.freeze(0, 2);
        due("a frozen one goes", x.turn(0, 1, 2), KEPT);
        due("frozen ones alone", x.turn(0, 0, 1), KEPT);
        due("one frozen one that stays", x.turn(0, 1, 1), 0);
        due("three, of which a frozen one would go", x.turn(0, 1, 3), KEPT);
        due("behind them", x.turn(0, 2, 4), 7);
        due("the row", row(x, 0), "4 1 3 0 2");
    }

    private static void crossingTails() {
        ShadowOrder open = book(2, 2);
        thrown("tails() of no list, the book open", open, INDEX, () -> open.tails(0, 0, 2, 0));
        thrown("tails() of one list, the book open", open, STATE, () -> open.tails(0, 0, 0, 0));
        ShadowOrder x = sums(7, 3);
        placeAll(x, 0, 0, 1, 2, 3);
        placeAll(x, 1, 4, 5);
        thrown("tails(-1, ..)", x, INDEX, () -> x.tails(-1, 0, 0, 0));
        thrown("tails(.., 3, ..)", x, INDEX, () -> x.tails(0, 0, 3, 0));
        thrown("one list", x, ARGUMENT, () -> x.tails(0, 0, 0, 0));
        thrown("from -1", x, ARGUMENT, () -> x.tails(0, -1, 1, 0));
        thrown("from 5 of 4", x, ARGUMENT, () -> x.tails(0, 5, 1, 0));
        thrown("at -1", x, ARGUMENT, () -> x.tails(0, 0, 1, -1));
        thrown("at 3 of 2", x, ARGUMENT, () -> x.tails(0, 0, 1, 3));
        x.tails(0, 1, 1, 1);
        due("a longer and a shorter one", row(x, 0) + "/" + row(x, 1), "0 5/4 1 2 3");
        x.tails(0, 1, 1, 2);
        due("a shorter and a longer one", row(x, 0) + "/" + row(x, 1), "0 2 3/4 1 5");
        due("nothing at all", x.tails(0, 3, 1, 3), 0);
        x.tails(1, 0, 0, 3);
        due("all of it", row(x, 0) + "/" + row(x, 1), "0 2 3 4 1 5/");
        due("places", x.where(5, 0) * 10 + x.where(5, 1), 5);
        x.tails(2, 0, 0, 0);
        due("all of it, to an empty one", row(x, 0) + "/" + row(x, 2), "/0 2 3 4 1 5");
        due("its sum", x.listShadow(2, 6), 0 + 20 + 50 + 90 + 100 + 150);
        x.freeze(2, 2);
        x.place(6, 0, 0);
        x.freeze(0, 1);
        due("a frozen one of the first", x.tails(2, 1, 0, 1), KEPT);
        due("a frozen one of the other", x.tails(2, 2, 0, 0), KEPT);
        due("behind them", x.tails(2, 4, 0, 1), 10);
        due("the rows", row(x, 0) + "/" + row(x, 2), "6 1 5/0 2 3 4");
        thrown("numbers ahead of KEPT", x, ARGUMENT, () -> x.tails(2, 0, 0, 4));
    }

    private static void factsOfThings() {
        ShadowOrder open = book(1, 1);
        thrown("fact() of no thing, the book open", open, INDEX, () -> open.fact(1, 0, 0));
        thrown("fact(), the book open", open, STATE, () -> open.fact(0, 4, 0));
        ShadowOrder x = sums(3, 1);
        thrown("fact(3, ..)", x, INDEX, () -> x.fact(3, 0, 0));
        thrown("fact(-1, ..)", x, INDEX, () -> x.fact(-1, 9, 0));
        thrown("fact -1", x, ARGUMENT, () -> x.fact(0, -1, 0));
        thrown("fact 4", x, ARGUMENT, () -> x.fact(0, 4, 0));
        due("of a thing in no list", x.fact(0, 0, 5), 0);
        due("it has it", x.where(0, 6), 5);
        placeAll(x, 0, 0, 1, 2);
        due("of one that is read", x.fact(0, 0, 6), 5);
        due("worked", all(x::worked), "0 6 12 240 241");
        due("the last of the running sums", x.listShadow(0, 7), 36);
        due("the same fact", x.fact(0, 0, 6), 0);
        due("a fact that none looks at", x.fact(0, 3, 99), 0);
        due("it has it", x.where(0, 9), 99);
        due("the greatest", x.fact(2, 0, Integer.MAX_VALUE), 3);
        due("the least", x.fact(2, 0, Integer.MIN_VALUE), 3);
        due("its sum", x.shadow(2, 0), Integer.MIN_VALUE + 16L);
        x.freeze(0, 1);
        due("of a frozen one", x.fact(0, 3, 98), KEPT);
        due("of a frozen one, the same", x.fact(0, 3, 99), 0);
        thrown("of a frozen one, fact 4", x, ARGUMENT, () -> x.fact(0, 4, 0));
        due("it has not got it", x.where(0, 9), 99);
        ShadowOrder y = book(2, 1);
        make(y, 1, 1, 1);
        make(y, 2, 1, 2);
        make(y, 3, 1, 3);
        y.open();
        y.place(1, 0, 0);
        for (int f = 1; f < 4; f++) {
            due("as in the book", y.fact(1, f, 10 + f), 0);
            due("another one", y.fact(1, f, 50 + f), 1);
            due("who looks at it", y.worked(0), 6 + f);
            due("its number", y.shadow(1, f), 50 + f);
        }
    }

    private static void factsOfLists() {
        ShadowOrder open = book(1, 1);
        thrown("listFact() of no list, the book open", open, INDEX, () -> open.listFact(1, 0, 0));
        thrown("listFact(), the book open", open, STATE, () -> open.listFact(0, 2, 0));
        ShadowOrder x = book(2, 2);
        make(x, 0, 2, 0);
        make(x, 1, 2, 1);
        make(x, 6, 1, 1);
        x.open();
        due("as in the book, by the first move", x.listFact(1, 1, 101), 0);
        placeAll(x, 0, 0);
        placeAll(x, 1, 1);
        thrown("listFact(2, ..)", x, INDEX, () -> x.listFact(2, 0, 0));
        thrown("listFact(-1, ..)", x, INDEX, () -> x.listFact(-1, 0, 0));
        thrown("fact 2", x, ARGUMENT, () -> x.listFact(0, 2, 0));
        thrown("fact -1", x, ARGUMENT, () -> x.listFact(0, -1, 0));
        due("as in the book", x.listFact(1, 0, 100) + x.listFact(1, 1, 101), 0);
        due("fact 0", x.listFact(1, 0, 7), 1);
        due("who looks at it", all(x::worked), "6");
        due("fact 1", x.listFact(1, 1, 8), 2);
        due("who looks at it", all(x::worked), "7 243");
        due("numbers", x.shadow(1, 0) * 100 + x.shadow(1, 1) * 10 + x.listShadow(1, 6), 788);
        due("the same", x.listFact(1, 1, 8), 0);
        x.freeze(1, 1);
        due("of a list with frozen things", x.listFact(1, 1, 9), 1);
        due("the frozen one keeps its number", x.shadow(1, 1), 8);
    }

    private static void links() {
        ShadowOrder open = book(2, 1);
        thrown("link() of no thing, the book open", open, INDEX, () -> open.link(2, 0));
        thrown("link() to no thing, the book open", open, INDEX, () -> open.link(0, 2));
        thrown("link(), the book open", open, STATE, () -> open.link(0, 0));
        ShadowOrder x = book(4, 2);
        make(x, 0, 1, 0);
        make(x, 1, 0, -1, 7, 0);
        make(x, 2, 0, -1, 7, 5);
        x.open();
        placeAll(x, 0, 0, 1);
        thrown("link(-1, 0)", x, INDEX, () -> x.link(-1, 0));
        thrown("link(4, 0)", x, INDEX, () -> x.link(4, 0));
        thrown("link(0, 4)", x, INDEX, () -> x.link(0, 4));
        thrown("link(0, -2)", x, INDEX, () -> x.link(0, -2));
        thrown("to itself", x, ARGUMENT, () -> x.link(0, 0));
        due("to another", x.link(0, 1), 2);
        due("it has it", x.where(0, 4), 1);
        due("its number", x.shadow(0, 1), 10);
        due("a kind without a maker is looked at, too", x.shadow(0, 2), 0);
        due("the same", x.link(0, 1), 0);
        due("to one in no list", x.link(0, 2), 2);
        due("its number", x.shadow(0, 1), -1);
        due("to another one in no list", x.link(0, 3), 0);
        due("from one in no list", x.link(2, 0), 0);
        due("the link comes to stand elsewhere", x.place(3, 1, 0), 5);
        due("its number", x.shadow(0, 1), 30);
        due("to none", x.link(0, NONE), 2);
        due("it has none", x.where(0, 4), NONE);
        due("to none again", x.link(0, NONE), 0);
        x.freeze(0, 1);
        due("of a frozen one", x.link(0, 1), KEPT);
        due("of a frozen one, the same", x.link(0, NONE), 0);
        due("to a frozen one", x.link(1, 0), 2);
        thrown("of a frozen one, to itself", x, ARGUMENT, () -> x.link(0, 0));
    }

    private static void freezing() {
        ShadowOrder open = book(2, 1);
        thrown("freeze() of no list, the book open", open, INDEX, () -> open.freeze(1, 0));
        thrown("freeze(), the book open", open, STATE, () -> open.freeze(0, 0));
        ShadowOrder x = sums(4, 2);
        placeAll(x, 0, 0, 1, 2, 3);
        thrown("freeze(2, ..)", x, INDEX, () -> x.freeze(2, 0));
        thrown("freeze(-1, ..)", x, INDEX, () -> x.freeze(-1, 0));
        thrown("n -1", x, ARGUMENT, () -> x.freeze(0, -1));
        thrown("n 5 of 4", x, ARGUMENT, () -> x.freeze(0, 5));
        due("n 0", x.freeze(1, 0), 0);
        due("n 3", x.freeze(0, 3), 0);
        due("frozen", x.where(0, 5) * 1000 + x.where(1, 5) * 100 + x.where(2, 5) * 10 + x.where(3, 5), 1110);
        due("n 1: two are not frozen any more", x.freeze(0, 1), 4);
        due("worked", all(x::worked), "6 7 12 13");
        due("frozen", x.where(0, 5) * 1000 + x.where(1, 5) * 100 + x.where(2, 5) * 10 + x.where(3, 5), 1000);
        due("n 4", x.freeze(0, 4), 0);
        due("frozen cells are cells", x.count(2), 12);
        due("n 0 again", x.freeze(0, 0), 8);
        due("a move that can be undone", x.count(3), 9);
        due("undo()", x.undo(), 0);
        due("frozen again", x.where(3, 5), 1);
    }

    private static void frozenCells() {
        ShadowOrder x = sums(4, 2);
        placeAll(x, 0, 0, 1, 2);
        x.freeze(0, 2);
        due("a count that frozen ones don't look at", x.place(3, 0, 3), 5);
        due("worked", all(x::worked), "13 18 19 240 241");
        due("the frozen one keeps the old count", x.shadow(1, 1), 103);
        due("isSame()", x.isSame() ? 1 : 0, 1);
        due("freed, it is worked", x.freeze(0, 1), 2);
        due("it has the new count", x.shadow(1, 1), 104);
        due("the frozen one has not", x.shadow(0, 1), 3);
        x.take(3);
        x.begin();
        x.place(3, 1, 0);
        x.take(3);
        x.place(3, 1, 0);
        x.freeze(1, 1);
        due("one that comes frozen", x.end(), 2);
        due("worked", all(x::worked), "243 244");
        due("its cells have 0", x.shadow(3, 0) + x.shadow(3, 1), 0);
        due("the list reads 0", x.listShadow(1, 7), 0);
        due("freed, it is worked", x.freeze(1, 0), 4);
        due("its number", x.shadow(3, 0), 30);
        x.begin();
        x.move(3, 0, 3);
        x.freeze(0, 3);
        x.freeze(0, 4);
        due("one that stood elsewhere comes to be frozen", x.end(), 4);
        due("it keeps its numbers", x.shadow(3, 0) * 1000 + x.shadow(3, 1), 30001);
    }

    // ------------------------------------------------------------------ groups and undo

    private static void beginning() {
        ShadowOrder x = sums(3, 2);
        placeAll(x, 0, 0, 1);
        String told = numbers(x);
        String worked = all(x::worked);
        x.begin();
        thrown("begin() in a group", x, STATE, x::begin);
        thrown("undo() in a group", x, STATE, x::undo);
        due("a move", x.place(2, 0, 0), 0);
        due("a move that is not as it must", x.place(2, 0, 0), NO);
        due("another move", x.fact(0, 0, 50), 0);
        due("a third", x.freeze(0, 1), 0);
        due("one that is kept", x.take(2), KEPT);
        due("a fourth", x.take(1), 0);
        due("moves in the group", x.count(6), 4);
        due("shadows are as at begin()", numbers(x), told);
        due("worked, too", all(x::worked), worked);
        due("cells, too", x.count(2), 8);
        due("the plan is as it stands", row(x, 0), "2 0");
        due("where, too", x.where(0, 1) + x.where(0, 6) + x.where(2, 5), 1 + 50 + 1);
        due("isSame()", x.isSame() ? 1 : 0, 1);
        due("moves that can be undone", x.count(3), 2);
    }

    private static void ending() {
        ShadowOrder x = sums(3, 2);
        thrown("end() without a group", x, STATE, x::end);
        x.begin();
        x.place(0, 0, 0);
        x.place(1, 0, 1);
        x.place(2, 0, 0);
        x.move(2, 1, 0);
        due("end()", x.end(), 10);
        due("worked", all(x::worked), "0 1 6 7 12 13 240 241 243 244");
        due("moves in the group", x.count(6), 0);
        due("one move", x.count(3), 1);
        thrown("end() again", x, STATE, x::end);
        x.begin();
        due("an empty group", x.end(), 0);
        due("it is a move, too", x.count(3), 2);
        due("nothing was worked", x.worked(0), NONE);
        due("undo()", x.undo(), 0);
        due("undo()", x.undo(), 6 + 4);
        due("none stands", row(x, 0) + row(x, 1), "");
    }

    private static void groupsAsOneMove() {
        ShadowOrder x = book(3, 1);
        make(x, 0, 0, 100, 1, 0, 17, 0);
        make(x, 1, 0, 0, 7, 1);
        x.open();
        placeAll(x, 0, 1, 2);
        String before = mostOfIt(x);
        x.begin();
        x.place(0, 0, 0);
        x.link(1, 2);
        due("a maker fails", x.end(), FAILED);
        due("none of them is done", mostOfIt(x), before);
        due("the cell", x.cause(1), 0);
        thrown("the group is no more", x, STATE, x::end);
        x.begin();
        x.link(1, 2);
        x.link(2, 1);
        due("a ring", x.end(), REFUSED);
        due("none of them is done", mostOfIt(x), before);
        due("the ring", all(x::ring), "7 13");
        x.begin();
        x.link(1, 2);
        x.link(2, 1);
        x.link(1, NONE);
        due("a ring that was only there in between", x.end(), 1);
        x.begin();
        x.fact(1, 0, 0);
        x.fact(1, 0, 10);
        x.take(2);
        x.place(2, 0, 1);
        x.turn(0, 0, 1);
        x.swap(1, 2);
        due("all is as it was", x.end(), 0);
        due("refused", x.count(5), 2);
        x.begin();
        x.freeze(0, 2);
        x.freeze(0, 0);
        due("frozen only in between", x.end(), 0);
        x.begin();
        x.place(0, 0, 0);
        x.take(0);
        due("there only in between", x.end(), 0);
    }

    private static void dropping() {
        ShadowOrder x = sums(3, 2);
        thrown("drop() without a group", x, STATE, x::drop);
        placeAll(x, 0, 0, 1);
        String before = everything(x);
        x.begin();
        x.place(2, 0, 0);
        x.place(2, 0, 0);
        x.fact(0, 1, 7);
        x.listFact(0, 0, 7);
        x.link(0, 1);
        x.freeze(0, 2);
        x.take(2);
        due("how many they were", x.drop(), 5);
        due("all is as it was", everything(x), before);
        thrown("drop() again", x, STATE, x::drop);
        x.begin();
        due("an empty group", x.drop(), 0);
        due("place() behind it", x.place(2, 0, 0), 8);
    }

    private static void undoing() {
        ShadowOrder x = sums(4, 2);
        due("nothing is kept", x.undo(), NONE);
        String[] told = new String[8];
        told[0] = plan(x) + numbers(x);
        x.place(0, 0, 0);
        told[1] = plan(x) + numbers(x);
        x.place(1, 0, 0);
        told[2] = plan(x) + numbers(x);
        x.freeze(0, 1);
        told[3] = plan(x) + numbers(x);
        x.link(0, 3);
        told[4] = plan(x) + numbers(x);
        x.begin();
        x.place(2, 0, 1);
        x.listFact(0, 0, 9);
        x.fact(0, 0, 4);
        x.end();
        due("a refused or kept one is no move", x.take(1), KEPT);
        int inAll = x.count(4);
        due("moves that can be undone", x.count(3), 5);
        due("a group: 2 came, 0, 1, 240, 241", x.undo(), 2 + 4);
        due("all is as it was", plan(x) + numbers(x), told[4]);
        due("nothing was worked", x.worked(0), NONE);
        due("worked in all", x.count(4), inAll);
        due("the link", x.undo(), 0);
        due("all is as it was", plan(x) + numbers(x), told[3]);
        due("the freeze", x.undo(), 0);
        due("all is as it was", plan(x) + numbers(x), told[2]);
        due("isSame()", x.isSame() ? 1 : 0, 1);
        due("the second: 6 and 7 go, 0, 1, 240, 241 change", x.undo(), 6);
        due("all is as it was", plan(x) + numbers(x), told[1]);
        due("the first: 0, 1 go, though 0 has the number 0; 241 changes, 240 stays 0", x.undo(), 3);
        due("all is as it was", plan(x) + numbers(x), told[0]);
        due("nothing is kept", x.undo(), NONE);
        due("a move behind it", x.place(3, 1, 0), 4);
        due("it can be undone", x.undo(), 4);
        ShadowOrder open = book(1, 1);
        thrown("undo(), the book open", open, STATE, open::undo);
    }

    private static void undoingSixty() {
        ShadowOrder x = sums(1, 1);
        x.place(0, 0, 0);
        for (int i = 1; i <= 70; i++) {
            x.fact(0, 0, i);
        }
        due("60 are kept", x.count(3), 60);
        for (int i = 70; i > 10; i--) {
            due("the number", x.shadow(0, 0), i);
            due("undo()", x.undo(), 3);
        }
        due("the eldest are forgotten", x.undo(), NONE);
        due("the number", x.shadow(0, 0), 10);
        for (int i = 1; i <= 59; i++) {
            x.fact(0, 0, -i);
        }
        due("59 are kept", x.count(3), 59);
        x.fact(0, 0, 0);
        x.fact(0, 0, 1);
        due("60 are kept", x.count(3), 60);
        for (int i = 0; i < 60; i++) {
            x.undo();
        }
        due("none is kept", x.count(3), 0);
        due("the number", x.shadow(0, 0), -1);
    }

    // ------------------------------------------------------------------ what is told

    private static void shadows() {
        ShadowOrder x = sums(2, 1);
        thrown("shadow(-1, 0)", x, INDEX, () -> x.shadow(-1, 0));
        thrown("shadow(2, 9)", x, INDEX, () -> x.shadow(2, 9));
        thrown("kind -1", x, ARGUMENT, () -> x.shadow(0, -1));
        thrown("kind 6", x, ARGUMENT, () -> x.shadow(0, 6));
        due("in no list", x.shadow(1, 0), 0);
        x.place(1, 0, 0);
        due("in a list", x.shadow(1, 0), 10);
        due("a kind without a maker", x.shadow(1, 5), 0);
        x.begin();
        x.take(1);
        due("in a group it is as at begin()", x.shadow(1, 0), 10);
        x.end();
        due("behind it, it is not there", x.shadow(1, 0), 0);
        ShadowOrder open = book(1, 1);
        make(open, 0, 0, 5);
        due("the book open", open.shadow(0, 0), 0);
        thrown("kind 6, the book open", open, ARGUMENT, () -> open.shadow(0, 6));
    }

    private static void shadowsOfLists() {
        ShadowOrder x = book(1, 2);
        make(x, 6, 0, 5);
        due("the book open", x.listShadow(0, 6), 0);
        thrown("listShadow(2, 5)", x, INDEX, () -> x.listShadow(2, 5));
        thrown("listShadow(-1, 6)", x, INDEX, () -> x.listShadow(-1, 6));
        thrown("kind 5", x, ARGUMENT, () -> x.listShadow(0, 5));
        thrown("kind 9", x, ARGUMENT, () -> x.listShadow(0, 9));
        make(x, 8, 1, 0);
        x.open();
        due("kind 6", x.listShadow(1, 6), 5);
        due("kind 7, without a maker", x.listShadow(1, 7), 0);
        due("kind 8", x.listShadow(1, 8), 100);
        x.begin();
        x.listFact(1, 0, 3);
        due("in a group it is as at begin()", x.listShadow(1, 8), 100);
        x.end();
        due("behind it", x.listShadow(1, 8), 3);
    }

    private static void where() {
        ShadowOrder x = book(3, 2);
        due("the book open", x.where(1, 0) + x.where(1, 1) + x.where(1, 2) + x.where(1, 3) + x.where(1, 4), 5 * NONE);
        due("the book open: frozen", x.where(1, 5), 0);
        due("the book open: a fact", x.where(1, 9), 13);
        x.open();
        thrown("where(3, 0)", x, INDEX, () -> x.where(3, 10));
        thrown("where(-1, 0)", x, INDEX, () -> x.where(-1, 0));
        thrown("what -1", x, ARGUMENT, () -> x.where(0, -1));
        thrown("what 10", x, ARGUMENT, () -> x.where(0, 10));
        placeAll(x, 1, 2, 0, 1);
        x.link(0, 2);
        x.freeze(1, 1);
        int[] want = {1, 1, 2, 1, 2, 0, 0, 1, 2, 3};
        for (int w = 0; w < 10; w++) {
            due("what " + w, x.where(0, w), want[w]);
        }
        due("before the first", x.where(2, 2), NONE);
        due("behind the last", x.where(1, 3), NONE);
        due("the first is frozen", x.where(2, 5), 1);
        due("without a link", x.where(2, 4), NONE);
        due("facts", x.where(2, 6) + x.where(2, 7) + x.where(2, 8) + x.where(2, 9), 20 + 21 + 22 + 23);
        x.begin();
        x.freeze(1, 0);
        x.move(2, 0, 0);
        x.link(0, NONE);
        x.fact(0, 2, 77);
        due("in a group", x.where(2, 0) + 10 * x.where(0, 1) + x.where(0, 2) + x.where(0, 4), 0 + 0 + NONE + NONE);
        due("in a group: frozen", x.where(2, 5), 0);
        due("in a group: a fact", x.where(0, 8), 77);
    }

    private static void at() {
        ShadowOrder x = book(3, 2);
        due("the book open", x.at(1, 0), NONE);
        thrown("at(2, 0), the book open", x, INDEX, () -> x.at(2, 0));
        x.open();
        thrown("at(-1, 0)", x, INDEX, () -> x.at(-1, 0));
        thrown("at(2, 0)", x, INDEX, () -> x.at(2, 0));
        placeAll(x, 1, 2, 0);
        due("the first", x.at(1, 0), 2);
        due("the second", x.at(1, 1), 0);
        due("behind the last", x.at(1, 2), NONE);
        due("before the first", x.at(1, -1), NONE);
        due("far away", x.at(1, Integer.MAX_VALUE), NONE);
        due("the least", x.at(1, Integer.MIN_VALUE), NONE);
        due("another list", x.at(0, 0), NONE);
        x.begin();
        x.place(1, 1, 0);
        due("in a group", x.at(1, 0), 1);
        x.drop();
        due("behind it", x.at(1, 0), 2);
    }

    private static void worked() {
        ShadowOrder x = book(3, 1);
        make(x, 0, 0, 60, 1, 0, 17, 0);
        make(x, 6, 9, 0);
        x.open();
        due("by open()", all(x::worked), "240");
        x.place(1, 0, 0);
        due("by a move", all(x::worked), "6 240");
        due("k -1", x.worked(-1), NONE);
        due("k 2", x.worked(2), NONE);
        due("the greatest k", x.worked(Integer.MAX_VALUE), NONE);
        due("the least k", x.worked(Integer.MIN_VALUE), NONE);
        due("a maker fails", x.place(0, 0, 0), FAILED);
        due("a refused move counts for nothing", all(x::worked), "6 240");
        x.place(1, 0, 0);
        due("NO counts for nothing", all(x::worked), "6 240");
        x.begin();
        x.place(2, 0, 0);
        due("a group counts by its end()", all(x::worked), "6 240");
        x.end();
        due("by end()", all(x::worked), "12 240");
        x.undo();
        due("behind undo()", x.worked(0), NONE);
        x.place(0, 0, 0);
        due("behind a refused move, too", x.worked(0), NONE);
        due("a number that stays", x.fact(1, 0, 10), 0);
        due("nothing was worked", x.worked(0), NONE);
        due("6 gets its old number anew", x.fact(1, 0, 11) + 10 * x.fact(1, 0, 10), 22);
    }

    /** Who is TOUCHED, and who is not. */
    private static void touched() {
        ShadowOrder x = book(4, 2);
        make(x, 0, 1, 0, 0, 100, 17, 0);
        make(x, 1, 4, 0);
        make(x, 2, 3, 0, 24, 0, 0, 1);
        make(x, 3, 3, 1, 24, 0, 0, 1);
        make(x, 4, 0, 1, 6, 5);
        make(x, 5, 0, 0, 2, 0, 0, 2, 20, 0);
        make(x, 6, 9, 0);
        make(x, 7, 0, 3, 12, 0);
        make(x, 8, 0, 3, 13, 5);
        x.open();
        placeAll(x, 0, 0, 1, 2);
        due("a cell that gets its old number touches none", x.fact(0, 0, 50), 1);
        due("worked", all(x::worked), "0");
        due("what 20 drops was looked at, too", x.listFact(0, 0, 5), 3);
        due("worked", all(x::worked), "5 11 17");
        due("a turn: places, neighbours, the sum's row, the first, the last", x.turn(0, 0, 2), 8);
        due("worked", all(x::worked), "2 4 10 14 16 240 241 242");
        x.tails(0, 0, 1, 0);
        due("another list: place, count, its fact", all(x::worked),
            "2 3 5 8 9 11 14 15 17 240 241 242 243 244 245");
        due("the same place: nothing", x.move(1, 1, 1), 0);
        x.begin();
        x.place(3, 1, 3);
        x.take(2);
        due("as many as before: no count", x.end() > 0 ? all(x::worked) : "", "2 8 18 19 20 21 22 23 4 243 244 245");
        ShadowOrder y = book(3, 1);
        make(y, 0, 1, 0);
        make(y, 1, 0, 5, 5, 0, 0, 6, 6, 0, 15, 0);
        y.open();
        placeAll(y, 0, 0, 1);
        due("none before, one behind", y.shadow(0, 1), 5 - 10);
        due("one before, none behind: the same one, by another step", y.turn(0, 0, 1), 2);
        due("its number", y.shadow(0, 1), 10 - 6);
        due("isSame()", y.isSame() ? 1 : 0, 1);
    }

    private static void order() {
        ShadowOrder x = book(3, 2);
        make(x, 0, 0, 0, 6, 0, 8, 6, 14, 0);
        make(x, 3, 0, 7);
        make(x, 6, 3, 1);
        make(x, 8, 9, 0);
        due("the book open", x.order(0), NONE);
        x.open();
        due("lists alone", all(x::order), "240 242 243 245");
        placeAll(x, 1, 0, 1, 2);
        due("each behind what it reads, the least first", all(x::order), "3 9 15 240 242 243 12 6 0 245");
        due("k -1", x.order(-1), NONE);
        due("k 10", x.order(10), NONE);
        due("the greatest k", x.order(Integer.MAX_VALUE), NONE);
        x.freeze(1, 2);
        due("frozen ones read nothing", all(x::order), "0 3 6 9 15 240 242 243 12 245");
        x.undo();
        due("behind undo()", all(x::order), "3 9 15 240 242 243 12 6 0 245");
        x.begin();
        x.take(0);
        due("in a group as at begin()", all(x::order), "3 9 15 240 242 243 12 6 0 245");
        x.end();
        due("behind it", all(x::order), "9 15 240 242 243 12 6 245");
    }

    private static void rings() {
        ShadowOrder self = book(1, 1);
        make(self, 2, 4, 2);
        self.open();
        String before = mostOfIt(self);
        due("a cell that reads itself", self.place(0, 0, 0), REFUSED);
        due("the ring", all(self::ring), "2");
        due("nothing else has changed", mostOfIt(self), before);
        due("k -1", self.ring(-1), NONE);
        due("the greatest k", self.ring(Integer.MAX_VALUE), NONE);

        ShadowOrder x = book(4, 1);
        make(x, 0, 0, 0, 7, 0);
        make(x, 1, 0, 0, 5, 1, 0, 0, 6, 0, 14, 0);
        x.open();
        placeAll(x, 0, 3, 2, 1, 0);
        x.link(3, 2);
        x.link(2, 1);
        x.link(0, 3);
        due("three and one that leads to them", x.link(1, 3), REFUSED);
        due("it begins with the least that is in a ring", all(x::ring), "6 18 12");
        due("the link is none", x.where(1, 4), NONE);
        due("another move", x.link(1, NONE), 0);
        due("no ring then", x.ring(0), NONE);
        x.link(1, 3);
        due("a ring again", all(x::ring), "6 18 12");
        due("undo() is not judged", x.undo(), 0);
        due("the ring is still told", all(x::ring), "6 18 12");

        // kind 0 reads kinds 1, 2 and 3: by 1 the way back is longer, by 2 and 3 it is of one read
        ShadowOrder y = book(1, 1);
        make(y, 0, 4, 1, 4, 3, 14, 0, 4, 2, 14, 0);
        make(y, 1, 4, 4);
        make(y, 2, 4, 0);
        make(y, 3, 4, 0);
        make(y, 4, 4, 0);
        y.open();
        due("many rings", y.place(0, 0, 0), REFUSED);
        due("the shortest way back, the first look", all(y::ring), "0 3");

        ShadowOrder q = book(1, 1);
        make(q, 0, 4, 1, 4, 2, 14, 0);
        make(q, 1, 4, 1);
        make(q, 2, 4, 0);
        q.open();
        q.place(0, 0, 0);
        due("a way that leads into another ring is no way back", all(q::ring), "0 2");
        ShadowOrder r = book(1, 1);
        make(r, 0, 4, 1, 4, 2, 14, 0);
        make(r, 1, 4, 3);
        make(r, 2, 4, 5);
        make(r, 3, 4, 4);
        make(r, 4, 4, 0);
        make(r, 5, 4, 0);
        r.open();
        r.place(0, 0, 0);
        due("a way back of two reads ahead of one of three", all(r::ring), "0 2 5");

        // a list's sum reads its things in their order; each reads the list
        ShadowOrder z = book(3, 1);
        make(z, 4, 8, 6);
        make(z, 5, 0, 0);
        make(z, 6, 0, 1, 10, 4);
        z.open();
        z.begin();
        z.place(2, 0, 0);
        z.place(1, 0, 1);
        due("by a list", z.end(), REFUSED);
        due("it begins with the least", all(z::ring), "10 240");
        ShadowOrder w = book(3, 1);
        make(w, 0, 8, 7);
        make(w, 6, 4, 8, 9, 0, 14, 0);
        make(w, 7, 4, 6);
        make(w, 8, 0, 1);
        w.open();
        w.begin();
        w.place(2, 0, 0);
        w.place(1, 0, 1);
        w.end();
        due("by two shadows of a list", all(w::ring), "6 241 240");

        // a list's kind 6 sums kinds 0, which read their links' kind 5, which reads the list
        ShadowOrder u = book(3, 1);
        make(u, 0, 0, 0, 7, 5);
        make(u, 5, 8, 6);
        make(u, 6, 9, 0);
        u.open();
        placeAll(u, 0, 2, 1, 0);
        due("by a link", u.link(1, 0), REFUSED);
        due("through a list to another thing", all(u::ring), "5 240 6");
        due("by another link", u.link(2, 0), REFUSED);
        due("through a list to another thing", all(u::ring), "5 240 12");
        u.begin();
        u.link(1, 0);
        u.link(2, 0);
        due("by both", u.end(), REFUSED);
        due("the first in the list's row", all(u::ring), "5 240 12");
        u.begin();
        u.turn(0, 0, 1);
        u.link(1, 0);
        u.link(2, 0);
        due("by both", u.end(), REFUSED);
        due("the first in the list's row", all(u::ring), "5 240 6");

        ShadowOrder v = book(2, 1);
        make(v, 0, 0, 0, 7, 0);
        v.open();
        placeAll(v, 0, 0, 1);
        v.link(0, 1);
        v.freeze(0, 1);
        due("a frozen one reads nothing", v.link(1, 0), 1);
        due("freed, it would be in a ring", v.freeze(0, 0), REFUSED);
        due("the ring", all(v::ring), "0 6");
        due("it is still frozen", v.where(0, 5), 1);
    }

    private static void causes() {
        ShadowOrder x = book(3, 1);
        make(x, 0, 1, 0, 0, -10, 14, 0, 21, 0, 0, 1);
        make(x, 1, 0, 5, 1, 1, 0, -21, 14, 0, 17, 0);
        make(x, 2, 0, 0, 7, 2);
        x.open();
        thrown("cause(-1)", x, ARGUMENT, () -> x.cause(-1));
        thrown("cause(4)", x, ARGUMENT, () -> x.cause(4));
        due("behind open()", x.cause(0), 0);
        String before = mostOfIt(x);
        due("by 21", x.place(0, 0, 0), FAILED);
        due("cause", x.cause(0) + " " + x.cause(1) + " " + x.cause(2) + " " + x.cause(3), "2 0 2 3");
        due("nothing else has changed", mostOfIt(x), before);
        x.fact(2, 0, 10);
        due("behind a move", x.cause(0) + " " + x.cause(1) + " " + x.cause(2) + " " + x.cause(3), "0 -1 -1 -1");
        due("by 0", x.place(2, 0, 0), FAILED);
        due("cause", x.cause(0) + " " + x.cause(1) + " " + x.cause(2) + " " + x.cause(3), "2 13 1 4");
        x.fact(2, 1, 20);
        x.place(2, 0, 0);
        x.place(1, 0, 0);
        x.link(1, 2);
        due("a ring", x.link(2, 1), REFUSED);
        due("cause", x.cause(0) + " " + x.cause(1) + " " + x.cause(2) + " " + x.cause(3), "1 -1 -1 -1");
        due("NO is not judged", x.place(1, 0, 0), NO);
        due("cause", x.cause(0), 1);
        x.undo();
        due("undo() is not judged", x.cause(0), 1);
        x.begin();
        x.fact(1, 0, 1);
        x.drop();
        due("a group that is dropped is not judged", x.cause(0), 1);
        due("fails", x.fact(1, 0, 1), FAILED);
        due("no ring then", x.ring(0), NONE);
        due("cause", x.cause(0) + " " + x.cause(1) + " " + x.cause(2) + " " + x.cause(3), "2 6 2 3");
        x.begin();
        due("an empty group is judged", x.end(), 0);
        due("cause", x.cause(0), 0);
        ShadowOrder y = book(1, 1);
        make(y, 0, 0, 1, 0, 2, 0, 3, 0, 4, 1, 0, 21, 0, 14, 0, 14, 0, 14, 0);
        y.open();
        y.place(0, 0, 0);
        due("its number", y.shadow(0, 0), 10);
        for (int i = 0; i < 20; i++) {
            due("fails", y.fact(0, 0, 5), FAILED);
        }
        y.fact(0, 0, 0);
        y.take(0);
        y.place(0, 0, 0);
        due("its number behind many that failed", y.shadow(0, 0), 10);
    }

    private static void counts() {
        ShadowOrder x = book(3, 2);
        make(x, 0, 0, 0, 7, 0);
        make(x, 6, 9, 0);
        thrown("count(-1)", x, ARGUMENT, () -> x.count(-1));
        thrown("count(7)", x, ARGUMENT, () -> x.count(7));
        due("things", x.count(0), 3);
        due("lists", x.count(1), 2);
        due("cells, the book open", x.count(2), 0);
        x.open();
        due("cells", x.count(2), 2);
        due("worked in all", x.count(4), 2);
        placeAll(x, 0, 0, 1);
        due("cells", x.count(2), 4);
        due("moves", x.count(3), 2);
        due("worked in all", x.count(4), 6);
        x.link(0, 1);
        x.link(1, 0);
        due("refused", x.count(5), 1);
        x.place(0, 0, 0);
        due("NO is not refused", x.count(5), 1);
        due("worked in all", x.count(4), 7);
        x.begin();
        due("moves in the group", x.count(6), 0);
        x.link(1, 0);
        due("moves in the group", x.count(6), 1);
        x.link(1, 0);
        due("moves in the group", x.count(6), 2);
        x.end();
        due("refused", x.count(5), 2);
        due("no group", x.count(6), 0);
        due("moves", x.count(3), 3);
        x.undo();
        due("moves", x.count(3), 2);
        due("worked in all", x.count(4), 7);
    }

    private static void same() {
        ShadowOrder x = sums(5, 2);
        due("isSame()", x.isSame() ? 1 : 0, 1);
        int[][] calls = {{0, 0, 0}, {1, 0, 0}, {2, 1, 0}, {3, 0, 1}, {4, 1, 1}};
        for (int[] c : calls) {
            x.place(c[0], c[1], c[2]);
            due("isSame()", x.isSame() ? 1 : 0, 1);
        }
        String told = everything(x);
        due("it changes nothing", x.isSame() ? everything(x) : "", told);
        x.freeze(0, 1);
        x.listFact(0, 0, 900);
        x.tails(0, 1, 1, 0);
        due("isSame() with frozen ones", x.isSame() ? 1 : 0, 1);
        x.begin();
        x.take(2);
        due("isSame() in a group", x.isSame() ? 1 : 0, 1);
        x.end();
        x.undo();
        due("isSame() behind undo()", x.isSame() ? 1 : 0, 1);
        x.begin();
        x.freeze(0, 0);
        x.take(1);
        x.place(1, 1, 0);
        x.fact(0, 0, 7);
        x.drop();
        due("isSame() behind drop()", x.isSame() ? 1 : 0, 1);
        ShadowOrder y = book(3, 1);
        make(y, 0, 0, 60, 1, 1, 17, 0);
        make(y, 1, 0, 0, 5, 0);
        y.open();
        placeAll(y, 0, 0, 1, 2);
        y.freeze(0, 1);
        y.begin();
        y.freeze(0, 0);
        y.take(0);
        y.fact(2, 1, 0);
        due("a maker fails when the frozen one has gone", y.end(), FAILED);
        due("isSame() behind it", y.isSame() ? 1 : 0, 1);
        ShadowOrder open = book(1, 1);
        make(open, 6, 4, 6);
        due("isSame(), the book open", open.isSame() ? 1 : 0, 1);
        open.open();
        due("isSame() behind a refused open()", open.isSame() ? 1 : 0, 1);
    }
}
