import java.util.function.Supplier;

/** A test of its own for each sentence of "What it is" and "Terms" that names a boundary case, under its words. */
public final class TermsBoundaryTests extends Boundary {
    public static void main(String[] args) {
        whatItIs();
        termsOne();
        termsTwo();
        termsThree();
        termsFour();
        exceptions();
        ends();
    }

    private static void whatItIs() {
        part = "What it is";
        says("An object is used for at most 512 calls", TermsBoundaryTests::calls512);
    }

    /** The greatest book with the longest makers, all things in one list, more moves than are kept: 512 calls. */
    private static void calls512() {
        ShadowOrder x = book(40, 6);
        for (int kind = 0; kind < 9; kind++) {
            due("maker " + kind, longMaker(x, kind), 0);
        }
        due("open()", x.open(), 18);
        x.begin();
        for (int t = 0; t < 40; t++) {
            due("place()", x.place(t, 5, t), 0);
        }
        due("end()", x.end(), 243);
        int calls = 46 + 9 * 25 + 1 + 42;
        for (int i = 1; i <= 100; i++) {
            due("fact()", x.fact(0, 0, i), 243);
        }
        due("count(4)", x.count(4), 18 + 243 + 100 * 243);
        for (int i = 0; i < 60; i++) {
            due("undo()", x.undo(), 243);
        }
        due("undo() of nothing", x.undo(), NONE);
        calls += 100 + 1 + 60 + 1;
        due("calls up to here", calls, 476);
        for (int k = 0; k < 33; k++) {
            due("order", x.order(225 + k), 225 + k);
        }
        due("order(258)", x.order(258), NONE);
        due("isSame()", x.isSame(), true);
        due("the 512th call", x.listShadow(5, 8), 40);
    }

    /** 24 steps. Things: what the one before has, or fact 0; lists: what the last one has, or -1. */
    private static int longMaker(ShadowOrder x, int kind) {
        x.step(kind < 6 ? 1 : 0, kind < 6 ? 0 : -1);
        for (int i = 0; i < 11; i++) {
            x.step(22, 0);
            x.step(24, 0);
        }
        x.step(kind < 6 ? 5 : 13, kind % 6);
        return x.maker(kind);
    }

    private static void termsOne() {
        part = "Terms 1";
        says("THINGS 0, 1, .. (40 at most)", () -> {
            ShadowOrder x = opened(book(40, 1));
            due("the 40th comes", x.place(39, 0, 0), 0);
            due("it stands", x.at(0, 0), 39);
            due("there is no 41st", answer(x, y -> y.place(40, 0, 0)), INDEX);
        });
        says("each with FACTS 0 .. 3", () -> {
            due("v 0", accepts(0, 1, 0), true);
            due("v 3", accepts(5, 1, 3), true);
            due("v 4", accepts(0, 1, 4), false);
            due("v -1", accepts(0, 1, -1), false);
            ShadowOrder x = opened(made(made(book(2, 1), 0, 1, 0), 3, 1, 3));
            stand(x, 0, 1);
            due("the first and the last", x.shadow(1, 0) + " " + x.shadow(1, 3), "10 13");
        });
        says("LISTS 0, 1, .. (6 at most)", () -> {
            ShadowOrder x = opened(book(1, 6));
            due("a thing comes to the 6th", x.place(0, 5, 0), 0);
            due("it stands there", x.where(0, 0), 5);
            due("there is no 7th", answer(x, y -> y.move(0, 6, 0)), INDEX);
        });
        says("each with FACTS 0, 1", () -> {
            due("v 0, 1", accepts(6, 1, 0) && accepts(8, 1, 1), true);
            due("v 2", accepts(6, 1, 2), false);
            due("v -1", accepts(6, 1, -1), false);
            ShadowOrder x = opened(made(made(book(0, 6), 6, 1, 0), 8, 1, 1));
            due("the first and the last", x.listShadow(5, 6) + " " + x.listShadow(5, 8), "500 501");
        });
        says("MAKERS, one for a KIND at most", () -> {
            ShadowOrder x = opened(made(made(book(0, 1), 6, 0, 3, 0, 4, 14, 0), 6, 0, 5));
            due("the later one alone", x.listShadow(0, 6) + " " + x.count(2) + " " + x.count(4), "5 1 1");
        });
        says("kinds 0 .. 5 are of things, 6 .. 8 of lists", () -> {
            due("2 is a step of kind 5", accepts(5, 2, 0), true);
            due("2 is none of kind 6", accepts(6, 2, 0), false);
            due("9 is none of kind 5", accepts(5, 9, 0), false);
            due("9 is a step of kind 6", accepts(6, 9, 0), true);
            due("9 is a step of kind 8", accepts(8, 9, 0), true);
        });
        says("At first things stand in no list, and have no LINK", () -> {
            ShadowOrder x = opened(book(40, 6));
            for (int t = 0; t < 40; t += 39) {
                due("list, place, before, behind, link, frozen", standing(x, t), "-1 -1 -1 -1 -1 0");
            }
            due("take()", x.take(39), NO);
            for (int l = 0; l < 6; l++) {
                due("the list's row", row(x, l), "");
            }
        });
        stepsAndStack();
        codes();
        failures();
    }

    private static void stepsAndStack() {
        says("a row of 1 .. 24 STEPS", () -> {
            due("none", new ShadowOrder().maker(0), -1);
            due("one", rowOfSteps(1, 0), 0);
            ShadowOrder x = opened(longBook());
            due("24 are worked, to the last", x.listShadow(0, 6), -1);
            stand(x, 0, 0);
            due("24 are worked, to the last", x.shadow(0, 0) + " " + x.listShadow(0, 6), "7 7");
        });
        says("a stack of 8 numbers at most", () -> {
            int[] eight = {0, 1, 0, 2, 0, 4, 0, 8, 0, 16, 0, 32, 0, 64, 0, 128, 14, 0, 14, 0, 14, 0, 14, 0, 14, 0, 14,
                0, 14, 0};
            due("8 are summed", worth(eight), 255);
            int[] ofThings = {0, 0, 1, 3, 2, 1, 3, 0, 3, 1, 4, 5, 8, 6, 22, 0};
            int[] ofLists = {0, 0, 1, 1, 3, 1, 4, 8, 9, 5, 22, 0};
            for (int i = 0; i < ofThings.length; i += 2) {
                due("a 9th by code " + ofThings[i], onEight(5, ofThings[i], ofThings[i + 1]), -9);
            }
            for (int i = 0; i < ofLists.length; i += 2) {
                due("a 9th by code " + ofLists[i], onEight(8, ofLists[i], ofLists[i + 1]), -9);
            }
            for (int code : new int[] {5, 6, 7, 14, 15, 16, 17, 18, 19, 20, 21, 23, 24}) {
                due("8 and code " + code, onEight(0, code, 0), -10);
            }
            for (int code : new int[] {10, 11, 12, 13, 14, 15, 16, 17, 18, 19, 20, 21, 23, 24}) {
                due("8 and code " + code, onEight(6, code, 0), -10);
            }
        });
        says("empty at first", () -> {
            ShadowOrder x = new ShadowOrder();
            due("nothing is left of a maker before", make(x, 6, 0, 1) + " " + make(x, 6, 24, 0), "0 -1");
            ShadowOrder y = opened(made(book(2, 1), 0, 0, 1, 0, 2, 0, 3, 0, 4, 0, 5, 0, 6, 0, 7, 1, 0, 21, 0,
                24, 0, 24, 0, 24, 0, 24, 0, 24, 0, 24, 0));
            due("it fails with seven left", y.place(1, 0, 0) + " " + y.place(1, 0, 0), "-2 -2");
            due("one that does not fail behind it", y.place(0, 0, 0) + " " + y.shadow(0, 0), "1 1");
        });
        says("one is left at its end", () -> {
            due("one", rowOfSteps(1, 0), 0);
            due("two", rowOfSteps(2, 0), -3);
            due("eight", rowOfSteps(8, 0), -9);
            due("none", make(new ShadowOrder(), 0, 0, 0, 24, 0), -3);
            due("none, by 21", make(new ShadowOrder(), 6, 0, 0, 21, 0), -3);
            due("it is the last number", worth(0, 4, 0, 9, 24, 0), 4);
        });
        says("What a step takes off is told in front of the -", () -> {
            for (int code = 0; code <= 24; code++) {
                for (int kind = 0; kind < 9; kind += 8) {
                    int v = kind == 8 ? (code == 3 ? 1 : code == 4 ? 6 : 0) : code == 8 ? 6 : 0;
                    boolean ofKind = kind == 0 ? code < 9 || code > 13 : code < 2 || code == 3 || code == 4 || code > 8;
                    if (ofKind && TAKES[code] > 0) {
                        due("too few for code " + code, behind(kind, TAKES[code] - 1, code, v), -TAKES[code]);
                    }
                    if (ofKind) {
                        due("enough for code " + code, behind(kind, TAKES[code], code, v) == -1 - TAKES[code], false);
                    }
                }
            }
        });
    }

    private static ShadowOrder longBook() {
        ShadowOrder x = new ShadowOrder();
        x.thing(7, 0, 0, 0);
        x.list(0, 0);
        due("24 steps of a thing", longMaker(x, 0), 0);
        due("24 steps of a list", longMaker(x, 6), 0);
        return x;
    }

    /** A code takes the numbers v from .. to, and no others; from above to: none at all. */
    private static void takes(int kind, int code, int from, int to) {
        String what = "kind " + kind + ", code " + code + ", v ";
        if (from <= to) {
            due(what + from, accepts(kind, code, from), true);
            due(what + to, accepts(kind, code, to), true);
        }
        for (int v = -2; v <= 10; v++) {
            due(what + v, accepts(kind, code, v), v >= from && v <= to);
        }
        due(what + "the least", accepts(kind, code, LEAST), from == LEAST);
        due(what + "the greatest", accepts(kind, code, MOST), to == MOST);
    }

    private static void takesT(int code, int from, int to) {
        for (int kind = 0; kind < 6; kind++) {
            takes(kind, code, from, to);
        }
    }

    private static void takesL(int code, int from, int to) {
        for (int kind = 6; kind < 9; kind++) {
            takes(kind, code, from, to);
        }
    }

    private static void codes() {
        says("0 (- v)", () -> {
            takesT(0, LEAST, MOST);
            takesL(0, LEAST, MOST);
            due("the least", worth(0, LEAST), LEAST);
            due("the greatest", worth(0, MOST), MOST);
        });
        says("1 (- its FACT v; T: v 0 .. 3, L: 0, 1)", () -> {
            takesT(1, 0, 3);
            takesL(1, 0, 1);
            ShadowOrder x = new ShadowOrder();
            x.thing(LEAST, 0, 0, MOST);
            x.list(MOST, LEAST);
            make(x, 0, 1, 0);
            make(x, 1, 1, 3);
            make(x, 6, 1, 0);
            make(x, 7, 1, 1);
            stand(opened(x), 0, 0);
            due("the least, the greatest", x.shadow(0, 0) + " " + x.shadow(0, 1), LEAST + " " + MOST);
            due("the greatest, the least", x.listShadow(0, 6) + " " + x.listShadow(0, 7), MOST + " " + LEAST);
        });
        says("2 T (- FACT v, 0 or 1, of its list)", () -> {
            takesT(2, 0, 1);
            takesL(2, 1, 0);
            ShadowOrder x = stand(opened(made(made(book(1, 6), 0, 2, 0), 5, 2, 1)), 5, 0);
            due("of the last list", x.shadow(0, 0) + " " + x.shadow(0, 5), "500 501");
        });
        says("3 T (- its place in its list, from 0, v being 0; v 1: how many things stand there); L: v 1 alone", () -> {
            takesT(3, 0, 1);
            takesL(3, 1, 1);
            ShadowOrder x = opened(made(made(made(book(40, 1), 0, 3, 0), 1, 3, 1), 6, 3, 1));
            due("of an empty list", x.listShadow(0, 6), 0);
            x.begin();
            for (int t = 0; t < 40; t++) {
                x.place(t, 0, 0);
            }
            x.end();
            due("the first", x.shadow(39, 0) + " " + x.shadow(39, 1), "0 40");
            due("the last of 40", x.shadow(0, 0) + " " + x.shadow(0, 1), "39 40");
            due("of the full list", x.listShadow(0, 6), 40);
        });
        says("4 (- its own shadow of kind v)", () -> {
            takesT(4, 0, 5);
            takesL(4, 6, 8);
            ShadowOrder x = made(made(made(made(book(40, 6), 0, 4, 5), 5, 1, 0), 6, 4, 8), 8, 1, 1);
            stand(opened(x), 5, 38, 39);
            due("of the last thing", x.shadow(39, 0), 390);
            due("of the last list", x.listShadow(5, 6), 501);
        });
        says("5 T (a - that of kind v of the thing before it in its list, or a, if there is none)", () -> {
            takesT(5, 0, 5);
            takesL(5, 1, 0);
            ShadowOrder x = stand(opened(made(made(book(3, 1), 0, 0, -9, 5, 5), 5, 1, 0)), 0, 2, 0, 1);
            due("the first, the next, the last", x.shadow(2, 0) + " " + x.shadow(0, 0) + " " + x.shadow(1, 0),
                "-9 20 0");
        });
        says("6 T: likewise of the thing behind it", () -> {
            takesT(6, 0, 5);
            takesL(6, 1, 0);
            ShadowOrder x = stand(opened(made(made(book(3, 1), 0, 0, -9, 6, 5), 5, 1, 0)), 0, 2, 0, 1);
            due("the first, the next, the last", x.shadow(2, 0) + " " + x.shadow(0, 0) + " " + x.shadow(1, 0),
                "0 10 -9");
        });
        says("7 T: likewise of its link, if it has one that stands in a list, or a", () -> {
            takesT(7, 0, 5);
            takesL(7, 1, 0);
            ShadowOrder x = stand(opened(made(made(book(40, 2), 0, 0, -9, 7, 5), 5, 1, 0)), 0, 0);
            due("it has none", x.shadow(0, 0), -9);
            due("one in no list", x.link(0, 39) + " " + x.shadow(0, 0), "0 -9");
            due("one in another list", x.place(39, 1, 0) + " " + x.shadow(0, 0), "3 390");
            due("it goes", x.take(39) + " " + x.shadow(0, 0), "1 -9");
            due("one in its own list", x.place(39, 0, 0) + " " + x.shadow(0, 0), "3 390");
        });
        says("8 T (- the shadow of kind v, 6 .. 8, of its list)", () -> {
            takesT(8, 6, 8);
            takesL(8, 1, 0);
            ShadowOrder x = made(made(made(made(book(1, 6), 0, 8, 6), 1, 8, 8), 6, 1, 0), 8, 1, 1);
            stand(opened(x), 5, 0);
            due("of the last list, kinds 6, 8", x.shadow(0, 0) + " " + x.shadow(0, 1), "500 501");
        });
        codesOfLists();
        codesOfNumbers();
    }

    private static void codesOfLists() {
        says("9 L (- the sum of all shadows of kind v, 0 .. 5, of its things)", () -> {
            takesT(9, 1, 0);
            takesL(9, 0, 5);
            ShadowOrder x = opened(made(made(made(book(40, 1), 0, 0, 1), 5, 1, 0), 6, 9, 0));
            due("of none", x.listShadow(0, 6), 0);
            x.begin();
            for (int t = 0; t < 40; t++) {
                x.place(t, 0, t);
            }
            x.end();
            due("of 40", x.listShadow(0, 6), 40);
        });
        says("10, 11 L (a - the greatest, the least of these, or a without things)", () -> {
            takesT(10, 1, 0);
            takesT(11, 1, 0);
            takesL(10, 0, 5);
            takesL(11, 0, 5);
            ShadowOrder x = opened(made(made(made(book(3, 1), 5, 1, 0), 6, 0, -3, 10, 5), 7, 0, 99, 11, 5));
            due("without things", x.listShadow(0, 6) + " " + x.listShadow(0, 7), "-3 99");
            stand(x, 0, 1);
            due("of one", x.listShadow(0, 6) + " " + x.listShadow(0, 7), "10 10");
            stand(x, 0, 2, 0);
            due("in the middle, at the end", x.listShadow(0, 6) + " " + x.listShadow(0, 7), "20 0");
            x.turn(0, 0, 2);
            due("in the middle, at the front", x.listShadow(0, 6) + " " + x.listShadow(0, 7), "20 0");
            x.swap(1, 2);
            x.fact(0, 0, 50);
            due("at the front, at the end", x.listShadow(0, 6) + " " + x.listShadow(0, 7), "50 10");
        });
        says("12, 13 L (a - that of its first, its last thing, or a)", () -> {
            takesT(12, 1, 0);
            takesT(13, 1, 0);
            takesL(12, 0, 5);
            takesL(13, 0, 5);
            ShadowOrder x = opened(made(made(made(book(3, 1), 5, 1, 0), 6, 0, -3, 12, 5), 7, 0, 99, 13, 5));
            due("without things", x.listShadow(0, 6) + " " + x.listShadow(0, 7), "-3 99");
            stand(x, 0, 1);
            due("of one", x.listShadow(0, 6) + " " + x.listShadow(0, 7), "10 10");
            stand(x, 0, 0, 2);
            due("of three", x.listShadow(0, 6) + " " + x.listShadow(0, 7), "10 20");
            x.take(2);
            x.take(1);
            x.take(0);
            due("without things again", x.listShadow(0, 6) + " " + x.listShadow(0, 7), "-3 99");
        });
    }

    private static void codesOfNumbers() {
        says("14 (a b - a + b). 15 (a b - a - b). 16 (a b - a b)", () -> {
            due("14", worth(0, MOST, 0, MOST, 14, 0), 2L * MOST);
            due("15", worth(0, LEAST, 0, MOST, 15, 0), (long) LEAST - MOST);
            due("16", worth(0, 30_000_000, 0, -30_000_000, 16, 0), -900_000_000_000_000L);
        });
        says("17 (a b - a / b, cut off toward 0)", () -> {
            due("7 / 2", worth(0, 7, 0, 2, 17, 0), 3);
            due("-7 / 2", worth(0, -7, 0, 2, 17, 0), -3);
            due("7 / -2", worth(0, 7, 0, -2, 17, 0), -3);
            due("-7 / -2", worth(0, -7, 0, -2, 17, 0), 3);
            due("1 / 2", worth(0, 1, 0, 2, 17, 0), 0);
            due("-1 / 2", worth(0, -1, 0, 2, 17, 0), 0);
            due("0 / -1", worth(0, 0, 0, -1, 17, 0), 0);
            due("the least / -1", worth(0, LEAST, 0, -1, 17, 0), 2_147_483_648L);
        });
        says("18, 19 (a b - the lesser, the greater)", () -> {
            due("18", worth(0, -1, 0, 1, 18, 0) + " " + worth(0, 1, 0, -1, 18, 0) + " " + worth(0, 4, 0, 4, 18, 0),
                "-1 -1 4");
            due("19", worth(0, -1, 0, 1, 19, 0) + " " + worth(0, 1, 0, -1, 19, 0) + " " + worth(0, 4, 0, 4, 19, 0),
                "1 1 4");
        });
        says("20 (a b c - b if a is above 0, else c)", () -> {
            due("1", worth(0, 1, 0, 5, 0, 6, 20, 0), 5);
            due("0", worth(0, 0, 0, 5, 0, 6, 20, 0), 6);
            due("-1", worth(0, -1, 0, 5, 0, 6, 20, 0), 6);
            due("the greatest, the least", worth(0, MOST, 0, 5, 0, 6, 20, 0) + worth(0, LEAST, 0, 5, 0, 6, 20, 0),
                "56");
        });
        says("21 (a -): FAILS with a not 0", () -> {
            due("0", worth(0, 4, 0, 0, 21, 0), 4);
            due("1", worth(0, 4, 0, 1, 21, 0), "-2 why 2 step 2");
            due("-1", worth(0, 4, 0, -1, 21, 0), "-2 why 2 step 2");
            due("2^32", worth(0, 4, 0, 65536, 22, 0, 16, 0, 21, 0), "-2 why 2 step 4");
        });
        says("22 (a - a a). 23 (a b - b a). 24 (a -)", () -> {
            due("22", worth(0, 5, 22, 0, 16, 0), 25);
            due("23", worth(0, 5, 0, 3, 23, 0, 15, 0), -2);
            due("24", worth(0, 5, 0, 3, 24, 0), 5);
        });
        says("(v counts for nothing in 14 to 24.)", () -> {
            for (int code = 14; code <= 24; code++) {
                takesT(code, LEAST, MOST);
                takesL(code, LEAST, MOST);
            }
            due("23 and 15 with other v", worth(0, 5, 0, 3, 23, LEAST, 15, MOST), -2);
        });
        says("A kind without a maker has shadows, too: they are always 0", () -> {
            ShadowOrder x = book(3, 1);
            made(x, 0, 4, 1, 0, 5, 5, 1, 14, 0, 0, 5, 6, 1, 14, 0, 0, 5, 7, 1, 14, 0, 8, 6, 14, 0);
            made(x, 7, 9, 1, 0, 5, 10, 1, 14, 0, 0, 5, 11, 1, 14, 0, 0, 5, 12, 1, 14, 0, 0, 5, 13, 1, 14, 0, 4, 6, 14,
                0);
            due("without things: four times a", opened(x).listShadow(0, 7), 20);
            x.link(1, 0);
            stand(x, 0, 0, 1, 2);
            due("in the middle, with a link", x.shadow(1, 0), 0);
            due("with things", x.listShadow(0, 7), 0);
            due("they are told", x.shadow(1, 1) + " " + x.listShadow(0, 6), "0 0");
            due("they are no cells", x.count(2), 4);
        });
    }

    /** The number of a list's cell of kind 6 by a maker, or why and at which step it failed. */
    private static String worth(int... steps) {
        ShadowOrder x = new ShadowOrder();
        x.list(6, 7);
        made(x, 6, steps);
        int answer = x.open();
        return answer == 1 ? "" + x.listShadow(0, 6) : answer + " why " + x.cause(2) + " step " + x.cause(3);
    }

    private static void failures() {
        int[] limit = {0, 1_000_000_000, 0, 1_000_000, 16, 0};
        says("A maker FAILS at a step: 1 by 0", () -> {
            due("1 / 0", worth(0, 1, 0, 0, 17, 0), "-2 why 1 step 2");
            due("0 / 0", worth(0, 0, 0, 0, 17, 0), "-2 why 1 step 2");
            due("0 / 1", worth(0, 0, 0, 1, 17, 0), 0);
            int[] row = {0, 0, 0, 9};
            for (int i = 0; i < 10; i++) {
                row = with(row, 22, 0, 24, 0);
            }
            due("at the 24th step", worth(with(row, 23, 0, 17, 0)), "-2 why 1 step 23");
        });
        says("2 by 21", () -> due("at the first step that can", worth(0, 7, 22, 0, 21, 0), "-2 why 2 step 2"));
        says("3 a number comes that is not -10^15 .. 10^15", () -> {
            due("10^15 by 16", worth(limit), LIMIT);
            due("-10^15 by 16", worth(0, 1_000_000_000, 0, -1_000_000, 16, 0), -LIMIT);
            due("10^15 by 14", worth(with(limit, 0, -1, 14, 0, 0, 1, 14, 0)), LIMIT);
            due("10^15 + 1 by 14", worth(with(limit, 0, 1, 14, 0)), "-2 why 3 step 4");
            due("-10^15 - 1 by 14", worth(0, 1_000_000_000, 0, -1_000_000, 16, 0, 0, -1, 14, 0), "-2 why 3 step 4");
            due("10^15 by 15", worth(with(limit, 0, 1, 15, 0, 0, -1, 15, 0)), LIMIT);
            due("10^15 + 1 by 15", worth(with(limit, 0, -1, 15, 0)), "-2 why 3 step 4");
            due("-10^15 - 1 by 15", worth(0, 1_000_000_000, 0, -1_000_000, 16, 0, 0, 1, 15, 0), "-2 why 3 step 4");
            due("10^15 + 10^9 by 16", worth(0, 1_000_000_000, 0, 1_000_001, 16, 0), "-2 why 3 step 2");
            due("-10^15 - 10^9 by 16", worth(0, -1_000_000_000, 0, 1_000_001, 16, 0), "-2 why 3 step 2");
            int[] close = {0, 1_000_000, 22, 0, 16, 0, 0, 1_000_000, 15, 0, 0, 1, 14, 0, 0, 1_000_001};
            due("what 10^18 + 1 is made of: 1,000,001 times this", worth(with(close, 24, 0)), 999_999_000_001L);
            due("10^18 + 1 by 16", worth(with(close, 16, 0)), "-2 why 3 step 8");
            due("10^15 times 10^15, that wraps round", worth(with(limit, 22, 0, 16, 0)), "-2 why 3 step 4");
            due("2^32 times 2^32, that wraps round to 0", worth(0, 65536, 22, 0, 16, 0, 22, 0, 16, 0),
                "-2 why 3 step 4");
            due("-2^32 times 2^32, that wraps round to 0", worth(0, 65536, 22, 0, 16, 0, 22, 0, 0, -1, 16, 0, 16, 0),
                "-2 why 3 step 6");
            due("10^15 times 1, -1, 0", worth(with(limit, 0, 1, 16, 0)) + " " + worth(with(limit, 0, -1, 16, 0)) + " "
                + worth(with(limit, 0, 0, 16, 0)), LIMIT + " " + -LIMIT + " 0");
            due("0 times 10^15", worth(0, 0, 0, 1_000_000_000, 0, 1_000_000, 16, 0, 16, 0), 0);
            due("31,622,776 squared", worth(0, 31_622_776, 22, 0, 16, 0), 999_999_961_946_176L);
            due("31,622,777 squared", worth(0, 31_622_777, 22, 0, 16, 0), "-2 why 3 step 2");
            due("31,622,777 times -31,622,777", worth(0, 31_622_777, 0, -31_622_777, 16, 0), "-2 why 3 step 2");
            due("10^15 by 17, 18, 19, 20, 22, 23", worth(with(limit, 0, 1, 17, 0, 22, 0, 18, 0, 22, 0, 19, 0,
                0, 1, 23, 0, 0, 5, 20, 0)), LIMIT);
            due("one that is dropped", worth(with(limit, 22, 0, 14, 0, 24, 0, 0, 5)), "-2 why 3 step 4");
        });
        says("(of 9: the whole sum)", () -> {
            due("10^15", sumOf(999_999_999, 1, 0), LIMIT);
            due("10^15 + 10^6", sumOf(1_000_000_000, 1, 0), "-2 why 3 step 0");
            due("-10^15", sumOf(-999_999_999, -1, 0), -LIMIT);
            due("-10^15 - 10^6", sumOf(-1_000_000_000, 0, -1), "-2 why 3 step 0");
            due("a part beyond it, the whole within it", sumOf(1_000_000_000, 1_000_000_000, -1_000_000_000), LIMIT);
        });
    }

    /** Three things of a million times their fact 0 in a list, and what comes of their sum. */
    private static String sumOf(int a, int b, int c) {
        ShadowOrder x = new ShadowOrder();
        for (int fact : new int[] {a, b, c}) {
            x.thing(fact, 0, 0, 0);
        }
        x.list(0, 0);
        made(made(x, 0, 1, 0, 0, 1_000_000, 16, 0), 6, 9, 0).open();
        x.begin();
        stand(x, 0, 0, 1, 2);
        int answer = x.end();
        return answer == 4 ? "" + x.listShadow(0, 6) : answer + " why " + x.cause(2) + " step " + x.cause(3);
    }

    private static void termsTwo() {
        part = "Terms 2";
        says("CELLS are shadows of things that stand in a list, and of lists, of kinds with a maker", () -> {
            ShadowOrder x = opened(made(made(book(2, 2), 3, 0, 1), 7, 0, 1));
            due("lists alone", all(x::order), "241 244");
            stand(x, 1, 1);
            due("one in a list", all(x::order), "9 241 244");
            x.take(1);
            due("it goes", all(x::order) + " " + x.count(2), "241 244 2");
            due("without any maker", opened(book(2, 2)).count(2), 0);
        });
        says("Cell 6 t + k is of thing t, 240 + 3 l + k - 6 of list l", () -> {
            ShadowOrder x = made(made(made(made(book(40, 6), 0, 0, 1), 5, 0, 2), 6, 0, 3), 8, 0, 4);
            due("the lists' cells", x.open() + ": " + all(x::order),
                "12: 240 242 243 245 246 248 249 251 252 254 255 257");
            x.place(39, 5, 0);
            due("the last thing's cells", all(x::worked), "234 239");
            x.place(0, 0, 0);
            due("the first thing's cells", all(x::worked), "0 5");
        });
        says("at nothing, where 5 to 7 and 10 to 13 find no thing", TermsBoundaryTests::looksAtNothing);
        says("(What 20 drops was looked at, too.)", () -> {
            ShadowOrder x = made(book(2, 1), 0, 0, 1, 0, 2, 1, 3, 20, 0);
            made(x, 1, 0, 1, 0, 2, 4, 1, 20, 0);
            ShadowOrder y = stand(opened(made(book(2, 1), 0, 0, 1, 0, 2, 1, 3, 20, 0)), 0, 0);
            due("a fact that is dropped", y.fact(0, 3, 77) + " " + y.shadow(0, 0), "1 2");
            due("a fact that no step tells of", y.fact(0, 2, 77), 0);
            due("a shadow that is dropped makes a ring", opened(x).place(0, 0, 0) + " " + verdict(x),
                "-1 ring 1, cause 1 -1 -1 -1");
        });
        says("It READS the cells among these", () -> {
            ShadowOrder x = stand(opened(made(book(2, 1), 0, 4, 1, 24, 0, 0, 5, 5, 3)), 0, 0, 1);
            due("a kind without a maker is no cell", all(x::order), "0 6");
            ShadowOrder y = opened(made(book(2, 1), 0, 0, 5, 7, 0));
            stand(y, 0, 0);
            due("nor is one in no list: no ring", y.link(0, 1) + " " + y.link(1, 0), "0 0");
            due("it is, when it comes", y.place(1, 0, 0), REFUSED);
            for (int code = 9; code <= 11; code++) {
                ShadowOrder z = opened(made(made(made(book(2, 1), 0, 8, 8), 6, allOf(code)), 8, 0, 1));
                due("all things' cells: none", all(z::order), "240 242");
                due("one", z.place(1, 0, 0) + " " + all(z::order), "2 242 6 240");
                due("two", z.place(0, 0, 0) + " " + all(z::order), "2 242 0 6 240");
            }
        });
        says("FROZEN cells (part 4) look at nothing", () -> {
            ShadowOrder x = stand(opened(made(book(2, 1), 0, 2, 0, 0, 0, 7, 0, 14, 0)), 0, 0, 1);
            x.link(0, 1);
            x.freeze(0, 1);
            due("not at a list's fact", x.listFact(0, 0, 9) + " " + all(x::worked), "1 6");
            due("not at a link: no ring", x.link(1, 0) + " " + x.ring(0), "1 -1");
            due("it comes first, as it reads none", all(x::order), "0 6");
            due("freed, it looks again", x.freeze(0, 0) + " " + verdict(x), "-1 ring 0 6, cause 1 -1 -1 -1");
        });
        theOrder();
        theRing();
    }

    private static void looksAtNothing() {
        for (int code = 5; code <= 7; code++) {
            ShadowOrder x = opened(made(made(book(3, 1), 0, 0, 4, code, 1), 1, 1, 0));
            x.begin();
            stand(x, 0, 0);
            x.link(0, 2);
            due("one thing alone", x.end() + " " + x.shadow(0, 0), "2 4");
            due("another link in no list", x.link(0, 1) + " " + x.link(0, NONE), "0 0");
        }
        for (int code = 10; code <= 13; code++) {
            ShadowOrder x = opened(made(made(book(2, 2), 1, 1, 0), 6, 0, 4, code, 1));
            due("two lists without things", all(x::order) + ": " + x.listShadow(1, 6), "240 243: 4");
            due("things come to another one", x.place(1, 0, 0) + " " + all(x::worked), "2 7 240");
            due("the last one goes", x.take(1) + " " + x.listShadow(0, 6), "1 4");
        }
    }

    private static void theOrder() {
        says("THE ORDER: again and again the least cell that has not come yet and reads none that has not", () -> {
            ShadowOrder x = made(made(book(3, 2), 0, 0, 0, 6, 0), 1, 8, 6);
            made(made(x, 6, 4, 8), 8, 3, 1);
            due("a list's greater cell first", opened(x).count(2) + ": " + all(x::order), "4: 242 240 245 243");
            stand(x, 1, 0, 1, 2);
            due("what waits comes when it can, the least first", all(x::order), "12 6 0 242 240 245 243 1 7 13");
            x.turn(1, 0, 2);
            due("the other way round", all(x::order), "0 6 12 242 240 245 243 1 7 13");
        });
        says("THE ORDER of 240 cells of which each reads one that is greater", () -> {
            ShadowOrder x = book(40, 1);
            for (int kind = 0; kind < 6; kind++) {
                made(x, kind, 0, 0, 5, kind);
            }
            x.open();
            x.begin();
            for (int t = 0; t < 40; t++) {
                x.place(t, 0, 0);
            }
            due("all come", x.end(), 240);
            for (int k = 0; k < 240; k++) {
                due("the " + k + "-th: kind by kind, from the last thing to the first", x.order(k),
                    6 * (39 - k % 40) + k / 40);
            }
        });
        says("THE ORDER: a cell that reads a lesser one that waits", () -> {
            ShadowOrder x = stand(opened(made(made(made(book(2, 1), 0, 4, 5), 1, 4, 0), 5, 0, 3)), 0, 1, 0);
            due("5 ahead of 0 ahead of 1", all(x::order), "5 0 1 11 6 7");
        });
    }

    private static void theRing() {
        says("(a cell may read itself)", () -> {
            ShadowOrder x = made(book(40, 1), 5, 4, 5);
            due("the last thing", opened(x).place(39, 0, 0) + " " + verdict(x), "-1 ring 239, cause 1 -1 -1 -1");
            ShadowOrder y = made(book(1, 6), 8, 4, 8);
            due("lists, by open()", y.open() + " " + verdict(y), "-1 ring 242, cause 1 -1 -1 -1");
            int[] row = {4, 8};
            for (int i = 0; i < 11; i++) {
                row = with(row, 22, 0, 24, 0);
            }
            ShadowOrder z = made(book(1, 6), 8, with(row, 13, 0));
            due("by a maker of 24 steps", z.open() + " " + verdict(z), "-1 ring 242, cause 1 -1 -1 -1");
        });
        says("it begins with the least cell from which a way of reads leads back to it", () -> {
            ShadowOrder x = made(made(made(book(1, 1), 0, 4, 3), 3, 4, 5), 5, 4, 3);
            due("0 leads into it, but not back", opened(x).place(0, 0, 0) + " " + all(x::ring), "-1 3 5");
            ShadowOrder y = made(made(made(made(book(1, 1), 1, 4, 2), 2, 4, 1), 3, 4, 4), 4, 4, 3);
            ShadowOrder z = made(made(made(book(1, 1), 0, 4, 1, 4, 2, 14, 0), 1, 4, 3), 2, 4, 1);
            made(made(z, 3, 4, 5), 5, 4, 3);
            due("0, 1, 2 lead into it, but not back", opened(z).place(0, 0, 0) + " " + all(z::ring), "-1 3 5");
            due("two rings", opened(y).place(0, 0, 0) + " " + all(y::ring), "-1 1 2");
        });
        says("of what the one before reads, the first in the order of its looks", () -> {
            ShadowOrder x = made(made(made(book(1, 1), 0, 4, 5, 4, 2, 14, 0), 2, 4, 0), 5, 4, 0);
            due("5 ahead of 2", opened(x).place(0, 0, 0) + " " + all(x::ring), "-1 0 5");
            ShadowOrder y = made(made(made(book(1, 1), 0, 4, 2, 4, 5, 14, 0), 2, 4, 0), 5, 4, 0);
            due("2 ahead of 5", opened(y).place(0, 0, 0) + " " + all(y::ring), "-1 0 2");
        });
        says("from which the way back to the beginning has the fewest reads", () -> {
            ShadowOrder x = made(made(made(made(book(1, 1), 0, 4, 1, 4, 3, 14, 0), 1, 4, 2), 2, 4, 0), 3, 4, 0);
            due("3 ahead of 1 and 2", opened(x).place(0, 0, 0) + " " + all(x::ring), "-1 0 3");
            ShadowOrder z = made(made(made(book(1, 1), 0, 0, 7), 1, 4, 2, 4, 3, 14, 0), 2, 4, 0, 4, 4, 14, 0);
            opened(made(made(z, 3, 4, 1), 4, 4, 1)).place(0, 0, 0);
            due("reads of a cell that has come count for nothing", all(z::ring), "1 3");
            // back to 1 it is four reads by 2, which reads 0 that has come, and three by 3
            ShadowOrder u = made(made(made(book(1, 1), 0, 0, 7), 1, 4, 2, 4, 3, 14, 0), 2, 4, 0, 4, 4, 14, 0);
            made(made(made(made(u, 3, 4, 5), 4, 4, 5), 5, 8, 6), 6, 9, 1).open();
            u.place(0, 0, 0);
            due("a longer way beside a cell that has come", all(u::ring), "1 3 5 240");
            ShadowOrder y = made(made(book(1, 1), 0, 4, 1, 4, 0, 14, 0), 1, 4, 0);
            due("itself ahead of all", opened(y).place(0, 0, 0) + " " + all(y::ring), "-1 0");
        });
        says("(by 9 to 11 at those of all things in order)", () -> {
            for (int code = 9; code <= 11; code++) {
                ShadowOrder x = opened(made(made(book(3, 1), 0, 8, 6), 6, allOf(code)));
                x.begin();
                stand(x, 0, 2, 1, 0);
                due("it begins with the least", x.end() + " " + all(x::ring), "-1 0 240");
                ShadowOrder y = through(code);
                y.begin();
                y.link(2, 0);
                y.link(1, 0);
                due("the first of the row", y.end() + " " + all(y::ring), "-1 5 240 12");
                y.begin();
                y.swap(1, 2);
                y.link(2, 0);
                y.link(1, 0);
                due("the first of the other row", y.end() + " " + all(y::ring), "-1 5 240 6");
            }
        });
        says("until that comes", () -> {
            ShadowOrder x = opened(made(book(40, 1), 0, 0, 0, 6, 0, 0, 0, 7, 0, 14, 0));
            x.begin();
            for (int t = 0; t < 40; t++) {
                x.place(t, 0, t);
            }
            x.link(39, 0);
            ShadowOrder y = made(book(40, 1), 5, 0, 0, 6, 0, 0, 0, 7, 0, 14, 0);
            for (int kind = 0; kind < 5; kind++) {
                made(y, kind, 4, kind + 1);
            }
            y.open();
            y.begin();
            for (int t = 0; t < 40; t++) {
                y.place(t, 0, t);
            }
            y.link(39, 0);
            due("a ring of 240", y.end(), REFUSED);
            for (int k = 0; k < 240; k++) {
                due("its " + k + "-th", y.ring(k), k);
            }
            due("behind its last", y.ring(240), NONE);
            due("a ring of 40", x.end() + " " + x.ring(0) + " " + x.ring(1) + " " + x.ring(39) + " " + x.ring(40),
                "-1 0 6 234 -1");
        });
    }

    /** Kind 6 looks at all kinds 0, which read their link's kind 5, which reads kind 6; 2, 1, 0 stand in the list. */
    private static ShadowOrder through(int code) {
        ShadowOrder x = made(made(book(3, 1), 0, 0, 0, 7, 5), 5, 8, 6);
        return stand(opened(made(x, 6, allOf(code))), 0, 2, 1, 0);
    }

    private static int[] allOf(int code) {
        return code == 9 ? new int[] {9, 0} : new int[] {0, 1, code, 0};
    }

    private static void termsThree() {
        part = "Terms 3";
        says("with a RING it is REFUSED: -1", () -> {
            due("the constant", REFUSED, -1);
            refuses(Boundary::fragile, -1, "ring 7 13, cause 1 -1 -1 -1", x -> x.link(2, 1));
            ShadowOrder x = made(made(book(1, 1), 0, 0, 1, 21, 0, 0, 1), 1, 4, 1);
            due("ahead of a maker that would fail", opened(x).place(0, 0, 0) + " " + verdict(x),
                "-1 ring 1, cause 1 -1 -1 -1");
        });
        says("the first that FAILS ends that: REFUSED: -2", () -> {
            due("the constant", FAILED, -2);
            refuses(Boundary::fragile, -2, "ring , cause 2 0 1 2", x -> x.place(0, 0, 0));
            ShadowOrder x = opened(made(book(2, 1), 0, 0, 0, 6, 0, 24, 0, 1, 0, 21, 0, 0, 1));
            x.begin();
            x.fact(0, 0, 5);
            stand(x, 0, 0, 1);
            due("the first in THE ORDER", x.end() + " " + verdict(x), "-2 ring , cause 2 6 2 4");
            ShadowOrder y = opened(made(made(book(1, 1), 0, 0, 1, 0, 0, 17, 0), 1, 0, 1, 21, 0, 0, 1));
            due("the first of two", y.place(0, 0, 0) + " " + verdict(y), "-2 ring , cause 2 0 1 2");
        });
        says("A move that is refused has changed nothing (but what cause() and ring() tell, and count(5))",
            TermsBoundaryTests::refusals);
        says("Otherwise it answers how many were worked", () -> {
            ShadowOrder x = sums(3, 2);
            due("none", x.fact(0, 3, 9) + " " + all(x::worked), "0 ");
            due("three", x.place(1, 0, 0) + " " + all(x::worked), "3 6 240 241");
        });
        says("are WORKED, each once, in THE ORDER", () -> {
            ShadowOrder x = made(made(book(1, 1), 0, 4, 1, 4, 2, 14, 0, 4, 1, 14, 0), 1, 4, 3);
            made(made(x, 2, 4, 3), 3, 1, 0);
            due("four, though 3 is read twice and 1, 2 twice", opened(x).place(0, 0, 0) + " " + all(x::worked),
                "4 3 1 2 0");
            due("as it is touched", x.fact(0, 0, 5) + " " + all(x::worked) + " " + x.shadow(0, 0), "4 3 1 2 0 15");
        });
        touched();
        noAndKept();
        groups();
        undoneOnes();
    }

    private static void refusals() {
        refuses(Boundary::fragile, -2, "ring , cause 2 6 1 2", x -> x.fact(1, 0, 0));
        refuses(Boundary::fragile, -2, "ring , cause 2 0 1 2", x -> x.place(0, 1, 0));
        // behind the refused one every kind of move is as it would have been
        Call[] calls = {x -> x.place(0, 0, 0), x -> x.link(2, 1)};
        for (Call refused : calls) {
            ShadowOrder x = fragile();
            ShadowOrder y = fragile();
            refused.on(x);
            Call[] next = {z -> z.fact(0, 0, 4), z -> z.place(0, 1, 0), z -> z.swap(1, 3), z -> z.link(1, NONE),
                z -> z.freeze(1, 1), z -> z.tails(0, 1, 1, 1), z -> z.undo(), z -> z.turn(1, 1, 1),
                z -> z.listFact(0, 0, 1), z -> z.take(3)};
            for (Call call : next) {
                due("a move behind it", answer(x, call), answer(y, call));
            }
            due("all behind that", told(x) + verdict(x) + later(x), told(y) + verdict(y) + later(y));
        }
    }

    private static void touched() {
        says("TOUCHED is a cell that was not there before the move", () -> {
            ShadowOrder x = opened(made(made(book(2, 1), 0, 0, 5), 6, 0, 5));
            due("one that looks at nothing", x.place(0, 0, 0) + " " + all(x::worked), "1 0");
            due("it is there", x.fact(0, 0, 8), 0);
            due("it goes: none is touched", x.take(0), 0);
            due("it comes again", x.place(0, 0, 0) + " " + all(x::worked), "1 0");
        });
        says("or was frozen", () -> {
            ShadowOrder x = stand(opened(made(book(3, 1), 0, 0, 5)), 0, 0, 1, 2);
            due("frozen", x.freeze(0, 2), 0);
            due("one is not any more", x.freeze(0, 1) + " " + all(x::worked), "1 6");
            due("the other", x.freeze(0, 0) + " " + all(x::worked), "1 0");
            due("it was not frozen", x.freeze(0, 0), 0);
        });
        says("or that looks at other things than before (another one", () -> {
            ShadowOrder x = opened(made(made(book(3, 1), 0, 0, 5), 1, 0, 5, 7, 0));
            stand(x, 0, 0, 1, 2);
            x.link(0, 1);
            due("another one of the same number", x.link(0, 2) + " " + all(x::worked), "1 1");
            due("the same one", x.link(0, 2), 0);
            ShadowOrder y = stand(opened(made(made(book(2, 1), 0, 0, 5), 6, 9, 0)), 0, 0, 1);
            due("a sum's row in another order", y.swap(0, 1) + " " + all(y::worked), "1 240");
        });
        says("none in place of one", () -> {
            ShadowOrder x = stand(opened(made(book(2, 1), 1, 0, 0, 5, 4)), 0, 0, 1);
            due("the one before goes", x.take(0) + " " + all(x::worked), "1 7");
            due("one comes in place of none", x.place(0, 0, 0) + " " + all(x::worked), "2 1 7");
            ShadowOrder y = stand(opened(made(book(1, 1), 6, 0, 0, 12, 4)), 0, 0);
            due("the first goes", y.take(0) + " " + all(y::worked), "1 240");
        });
        says("more or fewer)", () -> {
            ShadowOrder x = opened(made(book(2, 2), 6, 9, 4));
            due("one more, of the number 0", x.place(0, 1, 0) + " " + all(x::worked), "1 243");
            due("two", x.place(1, 1, 1) + " " + all(x::worked), "1 243");
            due("one fewer", x.take(1) + " " + all(x::worked), "1 243");
        });
        says("or at one that has another number than before", () -> {
            ShadowOrder x = made(made(made(book(1, 1), 0, 1, 0, 0, 10, 17, 0), 1, 4, 0), 6, 0, 0, 10, 1);
            stand(opened(x), 0, 0);
            due("9 / 10 is 0 / 10: only the first", x.fact(0, 0, 9) + " " + all(x::worked), "1 0");
            due("10 / 10 is not: all", x.fact(0, 0, 10) + " " + all(x::worked), "3 0 1 240");
            due("the same fact: none", x.fact(0, 0, 10) + " " + all(x::worked), "0 ");
        });
        says("(A place, or a count, is another thing in another list; so is a fact of another list.)", () -> {
            ShadowOrder x = new ShadowOrder();
            x.thing(0, 0, 0, 0);
            x.list(4, 5);
            x.list(4, 5);
            made(made(made(made(x, 0, 3, 0), 1, 3, 1), 2, 2, 0), 3, 2, 1);
            made(made(x, 4, 1, 0), 6, 3, 1);
            stand(opened(x), 0, 0);
            due("the same numbers in another list", x.move(0, 1, 0) + " " + all(x::worked), "6 0 1 2 3 240 243");
            due("to where it stands", x.move(0, 1, 0), 0);
        });
    }

    private static void noAndKept() {
        says("NO (-4): a thing does not stand as it must", () -> {
            due("the constant", NO, -4);
            leavesAll(Boundary::five, NO, x -> x.place(1, 1, 0));
            leavesAll(Boundary::five, NO, x -> x.take(4));
            leavesAll(Boundary::five, NO, x -> x.move(4, 0, 3));
            leavesAll(Boundary::five, NO, x -> x.swap(4, 1));
            leavesAll(Boundary::five, NO, x -> x.swap(1, 4));
        });
        says("KEPT (-3): a thing that is frozen would stand elsewhere (in another list, at another place)", () -> {
            due("the constant", KEPT, -3);
            Call[] kept = {x -> x.place(6, 0, 0), x -> x.place(6, 0, 1), x -> x.place(6, 1, 0), x -> x.take(0),
                x -> x.take(1), x -> x.move(0, 1, 1), x -> x.move(1, 0, 2), x -> x.move(1, 0, 0),
                x -> x.move(3, 0, 1), x -> x.move(5, 0, 0), x -> x.move(3, 1, 0), x -> x.swap(1, 2),
                x -> x.swap(2, 1), x -> x.swap(0, 1), x -> x.swap(5, 4), x -> x.turn(0, 1, 2), x -> x.turn(0, 0, 3),
                x -> x.turn(0, 0, 1), x -> x.tails(0, 1, 1, 2), x -> x.tails(0, 4, 1, 0), x -> x.tails(1, 0, 0, 4),
                x -> x.tails(1, 2, 0, 1), x -> x.tails(0, 0, 1, 0)};
            for (Call call : kept) {
                leavesAll(Boundary::seven, KEPT, call);
            }
            Call[] done = {x -> x.place(6, 0, 2), x -> x.place(6, 1, 1), x -> x.take(2), x -> x.move(0, 0, 0),
                x -> x.move(1, 0, 1), x -> x.move(3, 0, 2), x -> x.move(5, 0, 2), x -> x.move(3, 1, 1),
                x -> x.swap(2, 3), x -> x.swap(2, 5), x -> x.turn(0, 2, 3), x -> x.turn(0, 1, 1),
                x -> x.turn(1, 0, 0), x -> x.tails(0, 2, 1, 1), x -> x.tails(1, 2, 0, 4)};
            for (Call call : done) {
                ShadowOrder x = seven();
                due("one that is done", Integer.parseInt(answer(x, call)) >= 0, true);
                due("the frozen ones stand", x.at(0, 0) + " " + x.at(0, 1) + " " + x.at(1, 0), "0 1 4");
                due("they are frozen, others are not", frozen(x, 7), "1100100");
            }
        });
        says("or have another fact or link", () -> {
            for (int f = 0; f < 4; f++) {
                int fact = f;
                leavesAll(Boundary::five, KEPT, x -> x.fact(0, fact, 99));
                due("the fact that it has", five().fact(0, fact, fact), 0);
            }
            leavesAll(Boundary::five, KEPT, x -> x.link(0, 4));
            due("the link that it has: none", five().link(0, NONE), 0);
            ShadowOrder x = five();
            due("a link to a frozen one, a fact of one that is not", x.link(1, 0) + " " + x.fact(1, 3, 8), "0 0");
            x.freeze(0, 2);
            due("the link that it has", x.link(1, 0), 0);
            due("another one, none", x.link(1, 2) + " " + x.link(1, NONE), "-3 -3");
        });
        says("These are asked in this order, ahead of judging", () -> {
            leavesAll(Boundary::five, NO, x -> x.place(1, 0, 0));
            leavesAll(Boundary::five, NO, x -> x.move(4, 0, 0));
            leavesAll(Boundary::five, NO, x -> x.swap(0, 4));
            Supplier<ShadowOrder> story = () -> {
                ShadowOrder x = fragile();
                x.freeze(0, 1);
                return x;
            };
            leavesAll(story, KEPT, x -> x.place(0, 0, 0));
            leavesAll(story, KEPT, x -> x.fact(1, 0, 0));
        });
    }

    private static void groups() {
        says("from begin() to end() moves answer 0, or NO, KEPT", () -> {
            ShadowOrder x = fragile();
            x.freeze(1, 1);
            x.begin();
            due("one that would be worked", x.link(1, NONE), 0);
            due("one that would fail", x.place(0, 0, 0), 0);
            due("one that would make a ring", x.link(1, 2) + " " + x.link(2, 1), "0 0");
            due("NO, as it stands now", x.place(0, 1, 0), NO);
            due("KEPT", x.take(3), KEPT);
            due("KEPT no more", x.freeze(1, 0) + " " + x.take(3) + " " + x.take(3), "0 0 -4");
            due("frozen in the group", x.freeze(0, 3) + " " + x.take(0), "0 -3");
            due("frozen ones look at nothing, so there is no ring", x.end() + " " + all(x::worked), "2 240 243");
        });
        says("and are judged all together by end(), as one move", () -> {
            ShadowOrder x = fragile();
            x.begin();
            x.place(0, 0, 0);
            x.link(2, 1);
            x.link(2, NONE);
            x.fact(0, 0, 30);
            due("what would have been refused in between", x.end() + " " + all(x::worked), "3 0 1 240");
            due("its number", x.shadow(0, 0) + " " + x.count(3) + " " + x.count(5), "2 5 0");
            x.begin();
            x.take(0);
            x.place(0, 0, 0);
            x.freeze(0, 3);
            x.freeze(0, 0);
            due("as it was before: none is touched", x.end() + " " + x.count(3), "0 6");
        });
        says("refused, none of them is done", () -> {
            refuses(Boundary::fragileGroup, Boundary::fragile, -2, "ring , cause 2 6 1 2", x -> {
                x.fact(1, 0, 0);
                return x.end();
            });
            refuses(Boundary::fragileGroup, Boundary::fragile, -1, "ring 7 13, cause 1 -1 -1 -1", x -> {
                x.link(2, 1);
                return x.end();
            });
        });
        says("Till then all that is told of shadows, cells, THE ORDER is as it was at begin()", () -> {
            ShadowOrder x = fragile();
            String[] was = {cells(x), all(x::worked), verdict(x), "" + x.count(4) + x.count(5)};
            x.begin();
            x.fact(0, 0, 2);
            x.place(0, 0, 0);
            x.take(3);
            x.link(1, NONE);
            x.fact(2, 0, 60);
            x.freeze(0, 1);
            due("shadows, cells, order", cells(x), was[0]);
            due("what was worked", all(x::worked) + verdict(x) + x.count(4) + x.count(5), was[1] + was[2] + was[3]);
            due("the plan is as it stands", row(x, 0) + "/" + row(x, 1) + " " + x.where(1, 4) + x.where(0, 5),
                "0 1 2/ -11");
            x.end();
            due("then they are not", cells(x).equals(was[0]), false);
        });
    }

    private static void undoneOnes() {
        says("the latest move (group) that was done and not undone yet is undone", () -> {
            ShadowOrder x = sums(3, 1);
            stand(x, 0, 0, 1);
            x.begin();
            x.place(2, 0, 0);
            x.fact(0, 0, 7);
            x.end();
            x.take(0);
            due("the take: 0 comes, 240 changes; 241 has what 2, 1 had before", x.undo() + " " + row(x, 0), "4 2 0 1");
            due("the group", x.undo() + " " + row(x, 0) + " " + x.where(0, 6), "5 0 1 0");
            due("the second, the first", x.undo() + " " + row(x, 0) + "; " + x.undo() + " " + row(x, 0), "3 0; 2 ");
            due("no more", x.undo() + " " + row(x, 0), "-1 ");
        });
        says("the plan and all numbers are as they were before it", () -> {
            Call[] calls = {x -> x.place(4, 0, 1), x -> x.take(2), x -> x.move(2, 1, 0), x -> x.swap(1, 3),
                x -> x.turn(0, 1, 2), x -> x.tails(0, 1, 1, 0), x -> x.fact(1, 0, 77), x -> x.listFact(0, 1, 77),
                x -> x.link(1, 4), x -> x.freeze(0, 3), x -> x.freeze(0, 0), x -> x.listFact(1, 0, 3)};
            for (Call call : calls) {
                ShadowOrder x = five();
                String was = planOf(x) + cells(x);
                due("it is done", Integer.parseInt(answer(x, call)) >= 0, true);
                int moves = x.count(3);
                x.undo();
                due("all is as it was", planOf(x) + cells(x), was);
                due("one fewer is kept", x.count(3), moves - 1);
                due("the same once more", answer(x, call) + " " + x.count(3), answer(five(), call) + " " + moves);
            }
        });
        says("60 of them are kept (the eldest is forgotten)", () -> {
            for (int moves = 59; moves <= 62; moves++) {
                ShadowOrder x = stand(sums(1, 1), 0, 0);
                for (int i = 2; i <= moves; i++) {
                    x.fact(0, 0, 100 + i);
                }
                int kept = moves > 60 ? 60 : moves;
                due("kept of " + moves, x.count(3), kept);
                for (int i = 0; i < kept; i++) {
                    due("undo()", x.undo() > 0, true);
                }
                due("then none", x.undo() + " " + x.count(3), "-1 0");
                due("how it stands then", row(x, 0) + ", " + x.where(0, 6), moves < 61 ? ", 0" : moves == 61 ? "0, 0"
                    : "0, 102");
            }
        });
        says("60 of them are kept, round and round", () -> {
            ShadowOrder x = stand(sums(1, 1), 0, 0);
            int v = 0;
            for (int round = 0; round < 3; round++) {
                for (int i = 0; i < 70; i++) {
                    v++;
                    x.fact(0, 0, v);
                }
                for (int i = 0; i < 30; i++) {
                    x.undo();
                    v--;
                }
                due("of 70 more, 30 undone", x.count(3) + " " + x.shadow(0, 0), "30 " + v);
            }
            for (int i = 0; i < 30; i++) {
                due("undo()", x.undo(), 3);
            }
            due("the rest", x.undo() + " " + x.shadow(0, 0), "-1 " + (v - 30));
        });
    }

    private static void termsFour() {
        part = "Terms 4";
        says("FROZEN are the first n things of a list, by freeze()", () -> {
            ShadowOrder x = stand(stand(sums(5, 2), 0, 3, 1, 2), 1, 4);
            due("none at first", frozen(x, 5), "00000");
            x.freeze(0, 1);
            due("one", frozen(x, 5), "00010");
            x.freeze(0, 2);
            due("two", frozen(x, 5), "01010");
            x.place(0, 0, 2);
            due("behind the last of them", row(x, 0) + " " + frozen(x, 5), "3 1 0 2 01010");
            x.freeze(0, 4);
            due("all", frozen(x, 5), "11110");
            x.freeze(1, 1);
            due("in another list", frozen(x, 5), "11111");
            x.freeze(0, 0);
            due("none", frozen(x, 5), "00001");
        });
        says("their cells keep their numbers", () -> {
            ShadowOrder x = made(made(book(3, 1), 0, 1, 0, 2, 0, 14, 0, 3, 1, 14, 0), 1, 0, 0, 6, 0);
            stand(opened(x), 0, 0, 1, 2);
            x.freeze(0, 2);
            due("a list's fact: 2's cell alone", x.listFact(0, 0, 1000) + " " + all(x::worked), "1 12");
            due("the numbers", x.shadow(0, 0) + " " + x.shadow(1, 0) + " " + x.shadow(2, 0), "3 13 1023");
            due("a frozen one keeps what it read", x.shadow(1, 1), 23);
            due("a count", x.take(2) + " " + all(x::worked), "0 ");
            due("the numbers", x.shadow(0, 0) + " " + x.shadow(1, 0) + " " + x.shadow(1, 1), "3 13 23");
            due("freed", x.freeze(0, 0) + " " + x.shadow(0, 0) + " " + x.shadow(1, 0) + " " + x.shadow(1, 1),
                "4 1002 1012 0");
            x.begin();
            x.fact(1, 0, 500);
            x.move(1, 0, 0);
            x.freeze(0, 1);
            due("one that changes and is frozen at once", x.end() + " " + x.shadow(1, 0), "1 1012");
        });
        says("(one that was not there before has 0)", () -> {
            ShadowOrder x = sums(3, 1);
            x.begin();
            x.place(2, 0, 0);
            x.freeze(0, 1);
            due("one that comes frozen", x.end() + " " + all(x::worked) + " " + x.shadow(2, 0), "2 240 241 0");
            due("it is a cell", all(x::order), "12 240 241");
            due("it is read", x.place(1, 0, 1) + " " + x.shadow(1, 0), "3 10");
            due("freed", x.freeze(0, 0) + " " + x.shadow(2, 0) + " " + x.shadow(1, 0), "4 20 30");
            x.take(2);
            x.begin();
            x.place(2, 0, 0);
            x.freeze(0, 1);
            due("one that had a number, went and comes frozen", x.end() + " " + x.shadow(2, 0) + " " + x.shadow(1, 0),
                "2 0 10");
        });
        says("A list's own cells are never frozen", () -> {
            ShadowOrder x = opened(made(made(book(2, 1), 6, 3, 1, 1, 0, 14, 0), 8, 4, 6));
            stand(x, 0, 0);
            x.freeze(0, 1);
            due("its fact", x.listFact(0, 0, 9) + " " + all(x::worked) + " " + x.listShadow(0, 8), "2 240 242 10");
            due("its count", x.place(1, 0, 1) + " " + x.listShadow(0, 8), "2 11");
            due("all are frozen", x.freeze(0, 2) + " " + x.listFact(0, 0, 7) + " " + x.listShadow(0, 6), "0 2 9");
        });
        says("Moves come in groups, are undone; the fronts of lists freeze", () -> {
            ShadowOrder x = stand(sums(2, 1), 0, 0, 1);
            x.begin();
            x.freeze(0, 2);
            x.end();
            due("a freeze in a group", frozen(x, 2), "11");
            x.undo();
            due("undone", frozen(x, 2), "00");
        });
    }

    private static void exceptions() {
        part = "Terms, exceptions";
        says("IndexOutOfBoundsException: there is no such thing, list", () -> {
            for (int no : new int[] {-1, 5, LEAST, MOST, 40}) {
                if (no != -1) {
                    leavesAll(Boundary::five, INDEX, x -> x.link(0, no));
                }
                Call[] calls = {x -> x.place(no, 0, 0), x -> x.take(no), x -> x.move(no, 0, 0), x -> x.swap(no, 0),
                    x -> x.swap(0, no), x -> x.fact(no, 0, 0), x -> x.link(no, 0), x -> x.shadow(no, 0),
                    x -> x.where(no, 0)};
                for (Call call : calls) {
                    leavesAll(Boundary::five, INDEX, call);
                }
            }
            for (int no : new int[] {-1, 2, LEAST, MOST, 6}) {
                Call[] calls = {x -> x.place(4, no, 0), x -> x.move(1, no, 0), x -> x.turn(no, 0, 0),
                    x -> x.tails(no, 0, 0, 0), x -> x.tails(0, 0, no, 0), x -> x.listFact(no, 0, 0),
                    x -> x.freeze(no, 0), x -> x.listShadow(no, 6), x -> x.at(no, 0)};
                for (Call call : calls) {
                    leavesAll(Boundary::five, INDEX, call);
                }
            }
        });
        says("IndexOutOfBoundsException ahead of IllegalStateException ahead of IllegalArgumentException", () -> {
            Call[] noSuch = {x -> x.place(2, 0, 9), x -> x.place(0, 2, 9), x -> x.take(2), x -> x.move(-1, 0, 9),
                x -> x.move(0, -1, 9), x -> x.swap(2, 2), x -> x.turn(2, 3, 1), x -> x.tails(2, 9, 2, 9),
                x -> x.tails(0, 9, 2, 9), x -> x.fact(2, 4, 0), x -> x.listFact(2, 2, 0), x -> x.link(2, 2),
                x -> x.link(0, 2), x -> x.link(0, -2), x -> x.freeze(2, 9)};
            Call[] open = {x -> x.place(0, 0, 9), x -> x.take(0), x -> x.move(0, 0, 9), x -> x.swap(0, 0),
                x -> x.turn(0, 3, 1), x -> x.tails(0, 9, 0, 9), x -> x.fact(0, 4, 0), x -> x.listFact(0, 2, 0),
                x -> x.link(0, 0), x -> x.link(0, NONE), x -> x.freeze(0, 9), Boundary::begins, ShadowOrder::end,
                ShadowOrder::drop, ShadowOrder::undo};
            for (Call call : noSuch) {
                leavesAll(Boundary::openBook, INDEX, call);
            }
            for (Call call : open) {
                leavesAll(Boundary::openBook, STATE, call);
            }
            Call[] numbers = {x -> x.place(1, 0, 9), x -> x.move(4, 0, 4), x -> x.swap(4, 4), x -> x.swap(0, 0),
                x -> x.turn(0, 0, 3), x -> x.tails(0, 0, 1, 2), x -> x.tails(0, 0, 0, 0), x -> x.fact(0, 4, 9),
                x -> x.listFact(0, 2, 9), x -> x.link(0, 0), x -> x.freeze(0, 4)};
            for (Call call : numbers) {
                leavesAll(Boundary::five, ARGUMENT, call);
            }
            leavesAll(Boundary::five, INDEX, x -> x.shadow(5, 6));
            leavesAll(Boundary::five, INDEX, x -> x.listShadow(2, 5));
            leavesAll(Boundary::five, INDEX, x -> x.where(5, 10));
        });
        says("IllegalStateException: the book is closed", () -> {
            Call[] calls = {x -> x.thing(0, 0, 0, 0), x -> x.list(0, 0), x -> x.step(0, 0), x -> x.maker(0),
                x -> x.maker(9), x -> x.maker(-1), ShadowOrder::open};
            for (Call call : calls) {
                leavesAll(Boundary::five, STATE, call);
                leavesAll(Boundary::fragileGroup, STATE, call);
            }
        });
        says("A call that throws changes nothing: in a group, too", () -> {
            Call[] calls = {x -> x.place(0, 0, 3), x -> x.move(1, 0, 2), x -> x.swap(1, 1), x -> x.turn(0, 1, 2),
                x -> x.tails(0, 3, 1, 0), x -> x.fact(1, 4, 0), x -> x.listFact(0, -1, 0), x -> x.link(2, 2),
                x -> x.freeze(0, 3)};
            for (Call call : calls) {
                leavesAll(Boundary::fragileGroup, ARGUMENT, call);
            }
            leavesAll(Boundary::fragileGroup, INDEX, x -> x.take(4));
            leavesAll(Boundary::fragileGroup, STATE, ShadowOrder::undo);
            leavesAll(Boundary::fragileGroup, STATE, Boundary::begins);
        });
        says("what is told (also while the book is open, as it stands then)", () -> {
            ShadowOrder x = openBook();
            due("a thing", standing(x, 1) + " " + x.where(1, 6) + " " + x.where(1, 9), "-1 -1 -1 -1 -1 0 10 13");
            due("shadows", x.shadow(0, 0) + " " + x.listShadow(1, 6), "0 0");
            due("a list", x.at(1, 0), NONE);
            due("cells", x.worked(0) + " " + x.order(0) + " " + x.ring(0), "-1 -1 -1");
            due("verdict", verdict(x), "ring , cause 0 -1 -1 -1");
            due("counts", x.count(0) + " " + x.count(1) + " " + x.count(2) + " " + x.count(3) + " " + x.count(4) + " "
                + x.count(5) + " " + x.count(6), "2 2 0 0 0 0 0");
            due("isSame()", x.isSame(), true);
        });
    }
}
