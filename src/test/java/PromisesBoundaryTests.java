import java.util.function.Supplier;

/** A test of its own for each sentence of the promises 1 to 30 that names a boundary case, under its words. */
public final class PromisesBoundaryTests extends Boundary {
    public static void main(String[] args) {
        theBook();
        moves();
        groupsAndUndo();
        whatIsTold();
        ends();
    }

    private static void theBook() {
        part = "Promise 1";
        says("An open book, without anything", () -> {
            ShadowOrder x = new ShadowOrder();
            for (int what = 0; what < 7; what++) {
                due("count(" + what + ")", x.count(what), 0);
            }
            due("no thing, no list", answer(x, y -> y.where(0, 0)) + " " + answer(x, y -> y.at(0, 0)), INDEX + " "
                + INDEX);
            due("no step, no maker", x.step(0, 0) + " " + x.maker(8) + " " + x.list(0, 0), "1 0 0");
            due("open", answer(x, ShadowOrder::undo) + " " + x.open() + " " + x.count(2), STATE + " 1 1");
            due("verdict", verdict(x), "ring , cause 0 -1 -1 -1");
            due("an empty book is closed, too", new ShadowOrder().open(), 0);
        });
        part = "Promise 2";
        says("A thing with its facts: its number", () -> {
            ShadowOrder x = new ShadowOrder();
            due("the first", x.thing(LEAST, -1, 1, MOST), 0);
            due("its facts", x.where(0, 6) + " " + x.where(0, 7) + " " + x.where(0, 8) + " " + x.where(0, 9), LEAST
                + " -1 1 " + MOST);
            due("the next", x.thing(0, 0, 0, 0), 1);
        });
        says("IllegalStateException: there are 40", () -> {
            due("the 40th", book(39, 0).thing(1, 2, 3, 4), 39);
            leavesAll(() -> book(40, 1), STATE, x -> x.thing(1, 2, 3, 4));
            leavesAll(() -> opened(book(39, 1)), STATE, x -> x.thing(1, 2, 3, 4));
        });
        part = "Promise 3";
        says("A list with its facts: its number", () -> {
            ShadowOrder x = made(made(new ShadowOrder(), 6, 1, 0), 7, 1, 1);
            due("the first, the next", x.list(LEAST, MOST) + " " + x.list(-1, 1), "0 1");
            x.open();
            due("their facts", x.listShadow(0, 6) + " " + x.listShadow(0, 7) + " " + x.listShadow(1, 6) + " "
                + x.listShadow(1, 7),
                LEAST + " " + MOST + " -1 1");
        });
        says("IllegalStateException: there are 6", () -> {
            due("the 6th", book(0, 5).list(1, 2), 5);
            leavesAll(() -> book(1, 6), STATE, x -> x.list(1, 2));
            leavesAll(() -> opened(book(1, 5)), STATE, x -> x.list(1, 2));
        });
        part = "Promise 4";
        says("A step is collected: how many there are", () -> {
            ShadowOrder x = new ShadowOrder();
            for (int s = 1; s <= 24; s++) {
                due("step " + s, x.step(s % 2 == 0 ? LEAST : MOST, s), s);
            }
        });
        says("IllegalStateException: there are 24", () -> {
            Supplier<ShadowOrder> story = () -> {
                ShadowOrder x = book(1, 1);
                x.step(0, 5);
                for (int s = 0; s < 11; s++) {
                    x.step(22, 0);
                    x.step(24, 0);
                }
                x.step(13, 0);
                return x;
            };
            leavesAll(story, STATE, x -> x.step(0, 1));
            ShadowOrder x = story.get();
            due("the 25th", answer(x, y -> y.step(0, 1)) + " " + x.maker(6) + " " + x.open() + " " + x.listShadow(0,
                6), STATE + " 0 1 5");
            leavesAll(() -> opened(story.get()), STATE, y -> y.step(0, 1));
        });
        says("(Whether it is one is asked by maker().)", () -> {
            ShadowOrder x = new ShadowOrder();
            due("codes that are none", x.step(-1, 0) + " " + x.step(25, 0) + " " + x.step(LEAST, LEAST) + " "
                + x.step(24, 0), "1 2 3 4");
            due("maker()", x.maker(0), -1);
        });
        makers();
        opening();
    }

    private static void makers() {
        part = "Promise 5";
        says("The steps that were collected become the maker of a kind, in place of one that it had, and are gone: 0",
            () -> {
            ShadowOrder x = book(1, 1);
            due("a long one, a short one", make(x, 6, 0, 1, 0, 2, 14, 0) + " " + make(x, 6, 0, 9) + " " + x.step(0, 4),
                "0 0 1");
            due("each kind", x.maker(8) + " " + make(x, 0, 0, 3) + " " + make(x, 5, 0, 2), "0 0 0");
            stand(opened(x), 0, 0);
            due("the numbers", x.listShadow(0, 6) + " " + x.listShadow(0, 8) + " " + x.shadow(0, 0) + " " + x.shadow(0,
                5), "9 4 3 2");
        });
        says("Or, and they are gone, too", () -> {
            ShadowOrder x = made(book(1, 1), 6, 0, 8);
            due("a step that is none", make(x, 6, 0, 1, 2, 0) + " " + x.step(0, 1), "-2 1");
            due("two are left", make(x, 6, 0, 1) + " " + x.step(0, 1), "-3 1");
            due("it is one", x.maker(7) + " " + x.maker(6), "0 -1");
            due("the one that it had stays", x.open() + " " + x.listShadow(0, 6) + " " + x.listShadow(0, 7), "2 8 1");
        });
        says("-1 less the first step that is none in a maker of such a kind", () -> {
            due("the first", make(new ShadowOrder(), 0, 25, 0), -1);
            due("the second", make(new ShadowOrder(), 0, 0, 0, 9, 0), -2);
            due("the first of two", make(new ShadowOrder(), 6, 0, 0, 0, 0, 8, 6, 5, 0), -3);
            due("ahead of one that takes too much", make(new ShadowOrder(), 6, 0, 0, 2, 0, 20, 0), -2);
            due("behind one that takes too much", make(new ShadowOrder(), 6, 0, 0, 20, 0, 2, 0), -2);
            ShadowOrder x = new ShadowOrder();
            for (int s = 0; s < 23; s++) {
                x.step(s == 0 ? 0 : s % 2 == 0 ? 24 : 22, 0);
            }
            x.step(-1, 0);
            due("the 24th", x.maker(0), -24);
            due("-1, of things, of lists", accepts(0, -1, 0) + " " + accepts(6, -1, 0), "false false");
            due("25, of things, of lists", accepts(0, 25, 0) + " " + accepts(6, 25, 0), "false false");
            due("the least, the greatest", accepts(0, LEAST, 0) + " " + accepts(6, MOST, 0), "false false");
        });
        says("or takes more than there is", () -> {
            due("the first", make(new ShadowOrder(), 0, 24, 0), -1);
            due("of two, one is there", make(new ShadowOrder(), 0, 0, 0, 14, 0), -2);
            due("of three, two are there", make(new ShadowOrder(), 6, 0, 0, 0, 0, 20, 0), -3);
            due("of three, three are there", make(new ShadowOrder(), 6, 0, 0, 0, 0, 0, 0, 20, 0), 0);
            due("behind one that took", make(new ShadowOrder(), 6, 0, 0, 21, 0, 22, 0, 0, 0), -3);
        });
        says("or with which the stack would have more than 8", () -> {
            due("8", rowOfSteps(8, 0), -9);
            due("9", rowOfSteps(9, 0), -9);
            due("24", rowOfSteps(24, 0), -9);
            due("8 and one of them twice", onEight(0, 22, 0), -9);
            due("8, and then one in place of one", make(new ShadowOrder(), 0,
                0, 0, 0, 0, 0, 0, 0, 0, 0, 0, 0, 0, 0, 0, 0, 0, 24, 0, 0, 0,
                14, 0, 14, 0, 14, 0, 14, 0, 14, 0, 14, 0, 14, 0), 0);
        });
        says("-1 less how many there are, if not just one number is left", () -> {
            due("no steps", new ShadowOrder().maker(0), -1);
            due("two of two", make(new ShadowOrder(), 0, 0, 0, 0, 0), -3);
            due("none of two", make(new ShadowOrder(), 0, 0, 0, 24, 0), -3);
            ShadowOrder x = new ShadowOrder();
            for (int s = 0; s < 24; s++) {
                x.step(s == 0 ? 0 : s % 2 == 0 ? 24 : 22, 0);
            }
            due("two of 24", x.maker(0), -25);
        });
        says("IllegalArgumentException: kind is not 0 .. 8", () -> {
            for (int kind : new int[] {-1, 9, LEAST, MOST}) {
                leavesAll(Boundary::openBook, ARGUMENT, x -> x.maker(kind));
                leavesAll(() -> book(0, 1), ARGUMENT, x -> x.maker(kind));
            }
            due("0, 8", make(new ShadowOrder(), 0, 0, 0) + " " + make(new ShadowOrder(), 8, 0, 0), "0 0");
        });
    }

    private static void opening() {
        part = "Promise 6";
        says("The book is closed", () -> {
            ShadowOrder x = openBook();
            due("open()", x.open() + " " + answer(x, ShadowOrder::open) + " " + answer(x, y -> y.step(0, 0)), "2 "
                + STATE + " " + STATE);
            due("moves may come", x.place(0, 0, 0), 2);
        });
        says("the cells of lists are worked, all of them, as by a move: how many", () -> {
            due("no lists", made(book(3, 0), 6, 0, 1).open(), 0);
            due("no makers", book(3, 6).open(), 0);
            due("makers of things alone", made(book(3, 6), 0, 0, 1).open(), 0);
            ShadowOrder x = made(made(made(book(40, 6), 6, 4, 7), 7, 4, 8), 8, 0, 0);
            due("18, in THE ORDER", x.open() + " " + all(x::worked),
                "18 242 241 240 245 244 243 248 247 246 251 250 249 254 253 252 257 256 255");
            due("all of them are worked, one that is 0, too", x.count(4) + " " + x.count(2) + " " + x.count(3),
                "18 18 0");
        });
        says("(-1, -2: it stays open)", () -> {
            Supplier<ShadowOrder> ring = () -> {
                ShadowOrder x = made(made(book(1, 2), 6, 4, 8), 8, 4, 6);
                x.step(0, 4);
                return x;
            };
            refuses(ring, -1, "ring 240 242, cause 1 -1 -1 -1", ShadowOrder::open);
            Supplier<ShadowOrder> fails = () -> {
                ShadowOrder x = made(made(book(1, 2), 6, 0, 1), 7, 0, 1, 1, 0, 21, 0);
                x.step(0, 4);
                return x;
            };
            refuses(fails, -2, "ring , cause 2 244 2 2", ShadowOrder::open);
            ShadowOrder x = fails.get();
            x.open();
            due("it is open", answer(x, y -> y.place(0, 0, 0)) + " " + x.order(0) + " " + x.listShadow(0, 6) + " "
                + x.count(2), STATE + " -1 0 0");
            due("what was collected is there", x.maker(7) + " " + x.list(5, 5) + " " + x.thing(1, 1, 1, 1), "0 2 1");
            due("then it is closed", x.open() + " " + x.listShadow(2, 7) + " " + verdict(x),
                "6 4 ring , cause 0 -1 -1 -1");
            due("refused in all", x.count(5), 1);
        });
    }

    private static void moves() {
        part = "Promise 7";
        says("A thing comes to place at of a list", () -> {
            ShadowOrder x = sums(4, 1);
            due("to an empty one", x.place(0, 0, 0) + " " + row(x, 0), "3 0");
            due("to the front", x.place(1, 0, 0) + " " + row(x, 0), "4 1 0");
            due("to the end", x.place(2, 0, 2) + " " + row(x, 0), "3 1 0 2");
            due("in between", x.place(3, 0, 1) + " " + row(x, 0), "5 1 3 0 2");
            due("places", x.where(1, 1) + " " + x.where(3, 1) + " " + x.where(0, 1) + " " + x.where(2, 1), "0 1 2 3");
            ShadowOrder y = opened(book(40, 6));
            y.begin();
            for (int t = 0; t < 40; t++) {
                y.place(t, 5, 0);
            }
            y.end();
            due("40 in one list", y.at(5, 0) + " " + y.at(5, 39) + " " + y.at(5, 40) + " " + y.where(0, 1),
                "39 0 -1 39");
        });
        says("IllegalArgumentException: at is not 0 .. how many stand there", () -> {
            for (int at : new int[] {-1, 4, LEAST, MOST}) {
                leavesAll(Boundary::five, ARGUMENT, x -> x.place(4, 0, at));
                leavesAll(Boundary::five, ARGUMENT, x -> x.place(1, 0, at));
            }
            leavesAll(() -> sums(2, 1), ARGUMENT, x -> x.place(1, 0, 1));
            due("3 of 3", five().place(4, 0, 3), 3);
            due("0 of 0", sums(2, 1).place(1, 0, 0), 3);
        });
        says("NO: it stands in a list", () -> {
            leavesAll(Boundary::five, NO, x -> x.place(3, 1, 0));
            leavesAll(Boundary::five, NO, x -> x.place(3, 0, 3));
            due("it does not", five().place(4, 1, 1), 3);
        });
        part = "Promise 8";
        says("A thing goes from its list", () -> {
            due("the first", rowBehind(x -> x.take(0)), "1 2 3/4 5");
            due("one in between", rowBehind(x -> x.take(1)), "0 2 3/4 5");
            due("the last", rowBehind(x -> x.take(3)), "0 1 2/4 5");
            ShadowOrder x = stand(sums(1, 1), 0, 0);
            due("the only one", x.take(0) + " " + row(x, 0) + standing(x, 0) + " " + x.count(2),
                "2 -1 -1 -1 -1 -1 0 2");
        });
        says("NO: it stands in none", () -> {
            leavesAll(Boundary::five, NO, x -> x.take(4));
            ShadowOrder x = five();
            due("once, twice", x.take(2) + " " + x.take(2), "2 -4");
        });
        part = "Promise 9";
        says("A thing comes to place at of a list (of those that stand there without it)", () -> {
            due("to the end", rowBehind(x -> x.move(0, 0, 3)), "1 2 3 0/4 5");
            due("to the front", rowBehind(x -> x.move(3, 0, 0)), "3 0 1 2/4 5");
            due("one further", rowBehind(x -> x.move(1, 0, 2)), "0 2 1 3/4 5");
            due("one back", rowBehind(x -> x.move(2, 0, 1)), "0 2 1 3/4 5");
            due("to where it stands", rowBehind(x -> x.move(2, 0, 2)), "0 1 2 3/4 5");
            due("to another list's front", rowBehind(x -> x.move(2, 1, 0)), "0 1 3/2 4 5");
            due("to another list's end", rowBehind(x -> x.move(2, 1, 2)), "0 1 3/4 5 2");
            ShadowOrder x = stand(sums(1, 2), 0, 0);
            due("the only one", x.move(0, 0, 0) + " " + x.move(0, 1, 0) + " " + row(x, 0) + "/" + row(x, 1), "0 4 /0");
        });
        says("IllegalArgumentException: at is not 0 .. how many these are", () -> {
            for (int at : new int[] {-1, 3, LEAST, MOST}) {
                leavesAll(Boundary::five, ARGUMENT, x -> x.move(1, 0, at));
                leavesAll(Boundary::five, ARGUMENT, x -> x.move(0, 0, at));
            }
            for (int at : new int[] {-1, 4}) {
                leavesAll(Boundary::five, ARGUMENT, x -> x.move(3, 0, at));
                leavesAll(Boundary::five, ARGUMENT, x -> x.move(4, 0, at));
            }
            due("2 of 2 others", five().move(1, 0, 2), 4);
            due("3 of 3 of another list", five().move(3, 0, 3), 5);
            due("one of none others", answer(five(), x -> x.move(3, 1, 1)) + " " + five().move(3, 1, 0), ARGUMENT
                + " 0");
        });
        says("NO: it stands in none", () -> {
            leavesAll(Boundary::five, NO, x -> x.move(4, 1, 0));
            leavesAll(Boundary::five, NO, x -> x.move(4, 1, 1));
        });
        part = "Promise 10";
        says("Two things come to each other's places", () -> {
            due("the first and the last", rowBehind(x -> x.swap(0, 3)), "3 1 2 0/4 5");
            due("neighbours", rowBehind(x -> x.swap(2, 1)), "0 2 1 3/4 5");
            due("of two lists", rowBehind(x -> x.swap(5, 0)), "5 1 2 3/4 0");
            ShadowOrder x = six();
            x.swap(5, 0);
            due("where they stand", standing(x, 0) + "; " + standing(x, 5), "1 1 4 -1 -1 0; 0 0 -1 1 -1 0");
        });
        says("IllegalArgumentException: they are one", () -> {
            leavesAll(Boundary::five, ARGUMENT, x -> x.swap(1, 1));
            leavesAll(Boundary::five, ARGUMENT, x -> x.swap(4, 4));
            leavesAll(Boundary::five, ARGUMENT, x -> x.swap(0, 0));
        });
        says("NO: one stands in no list", () -> {
            leavesAll(Boundary::five, NO, x -> x.swap(1, 4));
            leavesAll(Boundary::five, NO, x -> x.swap(4, 1));
            leavesAll(() -> sums(2, 1), NO, x -> x.swap(0, 1));
        });
        turnsAndTails();
        factsAndLinks();
        part = "Promises 7 to 12, 16";
        says("0 .. how many stand there: all 40 in the last list", PromisesBoundaryTests::aFullList);
    }

    /** Kind 0: its place, kind 6: how many stand there; 40 things in list 5, the last one first. */
    private static ShadowOrder full() {
        ShadowOrder x = opened(made(made(book(40, 6), 0, 3, 0), 6, 3, 1));
        x.begin();
        for (int t = 0; t < 40; t++) {
            x.place(t, 5, 0);
        }
        x.end();
        return x;
    }

    /** Its first thing, its last, what is behind that, and the list's count. */
    private static String ends(ShadowOrder x, int list) {
        int n = (int) x.listShadow(list, 6);
        return x.at(list, 0) + " " + x.at(list, n - 1) + " " + x.at(list, n) + " of " + n;
    }

    private static void fullBehind(Call call, String want) {
        ShadowOrder x = full();
        due("the answer, the list", answer(x, call) + " " + ends(x, 5), want);
        x.undo();
        due("undone", ends(x, 5) + " " + x.shadow(0, 0), "39 0 -1 of 40 39");
    }

    private static void aFullList() {
        due("40 stand there", ends(full(), 5), "39 0 -1 of 40");
        fullBehind(x -> x.take(39), "40 38 0 -1 of 39");
        fullBehind(x -> x.take(0), "1 39 1 -1 of 39");
        fullBehind(x -> x.move(39, 5, 39), "40 38 39 -1 of 40");
        fullBehind(x -> x.move(0, 5, 0), "40 0 1 -1 of 40");
        fullBehind(x -> x.move(0, 0, 0), "3 39 1 -1 of 39");
        fullBehind(x -> x.swap(0, 39), "2 0 39 -1 of 40");
        fullBehind(x -> x.turn(5, 0, 39), "40 0 39 -1 of 40");
        fullBehind(x -> x.turn(5, 39, 39), "0 39 0 -1 of 40");
        fullBehind(x -> x.tails(5, 40, 4, 0), "0 39 0 -1 of 40");
        fullBehind(x -> x.tails(5, 0, 4, 0), "42 -1 -1 -1 of 0");
        fullBehind(x -> x.tails(4, 0, 5, 0), "42 -1 -1 -1 of 0");
        fullBehind(x -> x.freeze(5, 40), "0 39 0 -1 of 40");
        leavesAll(PromisesBoundaryTests::full, NO, x -> x.place(0, 5, 40));
        leavesAll(PromisesBoundaryTests::full, ARGUMENT, x -> x.place(0, 5, 41));
        leavesAll(PromisesBoundaryTests::full, ARGUMENT, x -> x.move(0, 5, 40));
        leavesAll(PromisesBoundaryTests::full, ARGUMENT, x -> x.turn(5, 0, 40));
        leavesAll(PromisesBoundaryTests::full, ARGUMENT, x -> x.tails(5, 41, 0, 0));
        leavesAll(PromisesBoundaryTests::full, ARGUMENT, x -> x.freeze(5, 41));
    }

    private static String rowBehind(Call call) {
        ShadowOrder x = six();
        String answer = answer(x, call);
        for (int l = 0; l < 2; l++) {
            for (int p = 0; x.at(l, p) != NONE; p++) {
                due("where it stands", x.where(x.at(l, p), 0) + " " + x.where(x.at(l, p), 1), l + " " + p);
            }
        }
        return answer.startsWith("-") || answer.startsWith("I") ? answer : row(x, 0) + "/" + row(x, 1);
    }

    private static void turnsAndTails() {
        part = "Promise 11";
        says("The things at places from .. to of a list stand there the other way round", () -> {
            due("all", rowBehind(x -> x.turn(0, 0, 3)), "3 2 1 0/4 5");
            due("three", rowBehind(x -> x.turn(0, 1, 3)), "0 3 2 1/4 5");
            due("two", rowBehind(x -> x.turn(0, 0, 1)), "1 0 2 3/4 5");
            due("one", rowBehind(x -> x.turn(0, 3, 3)), "0 1 2 3/4 5");
            due("one works none", six().turn(0, 0, 0), 0);
        });
        says("IllegalArgumentException: from is below 0", () -> {
            leavesAll(Boundary::six, ARGUMENT, x -> x.turn(0, -1, 2));
            leavesAll(Boundary::six, ARGUMENT, x -> x.turn(0, LEAST, 2));
            leavesAll(Boundary::six, ARGUMENT, x -> x.turn(0, -1, -1));
        });
        says("to below from", () -> {
            leavesAll(Boundary::six, ARGUMENT, x -> x.turn(0, 2, 1));
            leavesAll(Boundary::six, ARGUMENT, x -> x.turn(0, 0, -1));
            leavesAll(Boundary::six, ARGUMENT, x -> x.turn(0, MOST, LEAST));
            due("to is from", six().turn(0, 2, 2), 0);
        });
        says("or no such place", () -> {
            leavesAll(Boundary::six, ARGUMENT, x -> x.turn(0, 3, 4));
            leavesAll(Boundary::six, ARGUMENT, x -> x.turn(0, 4, 4));
            leavesAll(Boundary::six, ARGUMENT, x -> x.turn(0, 0, MOST));
            leavesAll(() -> sums(1, 1), ARGUMENT, x -> x.turn(0, 0, 0));
            due("the last", rowBehind(x -> x.turn(0, 2, 3)), "0 1 3 2/4 5");
        });
        part = "Promise 12";
        says("What stands in a list from place from on, and in another one from place at on, change lists", () -> {
            due("one and one", rowBehind(x -> x.tails(0, 3, 1, 1)), "0 1 2 5/4 3");
            due("three and one", rowBehind(x -> x.tails(0, 1, 1, 1)), "0 5/4 1 2 3");
            due("one and three", rowBehind(x -> x.tails(1, 1, 0, 1)), "0 5/4 1 2 3");
            due("all and all", rowBehind(x -> x.tails(0, 0, 1, 0)), "4 5/0 1 2 3");
            due("all and nothing", rowBehind(x -> x.tails(0, 0, 1, 2)), "/4 5 0 1 2 3");
            due("nothing and all", rowBehind(x -> x.tails(0, 4, 1, 0)), "0 1 2 3 4 5/");
            due("nothing and nothing", rowBehind(x -> x.tails(0, 4, 1, 2)), "0 1 2 3/4 5");
            due("nothing and nothing works none", six().tails(0, 4, 1, 2), 0);
            ShadowOrder x = opened(book(40, 6));
            x.begin();
            for (int t = 0; t < 40; t++) {
                x.place(t, 5, t);
            }
            x.tails(5, 0, 0, 0);
            x.tails(1, 0, 0, 20);
            x.end();
            due("40, and then 20", x.at(5, 0) + " " + x.at(0, 19) + " " + x.at(0, 20) + " " + x.at(1, 0) + " "
                + x.at(1, 19) + " " + x.at(1, 20), "-1 19 -1 20 39 -1");
        });
        says("IllegalArgumentException: both lists are one", () -> {
            leavesAll(Boundary::six, ARGUMENT, x -> x.tails(0, 0, 0, 0));
            leavesAll(Boundary::six, ARGUMENT, x -> x.tails(1, 2, 1, 1));
        });
        says("from, at are not 0 .. how many stand there", () -> {
            for (int no : new int[] {-1, 5, LEAST, MOST}) {
                leavesAll(Boundary::six, ARGUMENT, x -> x.tails(0, no, 1, 0));
                leavesAll(Boundary::six, ARGUMENT, x -> x.tails(1, 0, 0, no));
            }
            leavesAll(Boundary::six, ARGUMENT, x -> x.tails(0, 0, 1, 3));
            leavesAll(Boundary::six, ARGUMENT, x -> x.tails(1, 3, 0, 0));
            leavesAll(() -> sums(0, 2), ARGUMENT, x -> x.tails(0, 1, 1, 0));
            leavesAll(() -> sums(0, 2), ARGUMENT, x -> x.tails(0, 0, 1, 1));
            due("two empty ones", sums(0, 2).tails(0, 0, 1, 0), 0);
        });
    }

    private static void factsAndLinks() {
        part = "Promise 13";
        says("A thing's fact becomes v", () -> {
            for (int f = 0; f < 4; f++) {
                ShadowOrder x = stand(opened(made(book(2, 1), 0, 1, f)), 0, 1);
                due("the least", x.fact(1, f, LEAST) + " " + x.where(1, 6 + f) + " " + x.shadow(1, 0), "1 " + LEAST
                    + " " + LEAST);
                due("the greatest", x.fact(1, f, MOST) + " " + x.where(1, 6 + f) + " " + x.shadow(1, 0), "1 " + MOST
                    + " " + MOST);
                due("the same", x.fact(1, f, MOST) + " " + x.count(3), "0 4");
                due("of one in no list", x.fact(0, f, 5) + " " + x.where(0, 6 + f), "0 5");
                for (int g = 0; g < 4; g++) {
                    due("the others stay", g == f || x.where(1, 6 + g) == 10 + g && x.where(0, 6 + g) == g, true);
                }
            }
        });
        says("IllegalArgumentException: fact is not 0 .. 3", () -> {
            for (int no : new int[] {-1, 4, LEAST, MOST}) {
                leavesAll(Boundary::five, ARGUMENT, x -> x.fact(1, no, 0));
                leavesAll(Boundary::five, ARGUMENT, x -> x.fact(0, no, 0));
            }
        });
        part = "Promise 14";
        says("A list's fact becomes v", () -> {
            for (int f = 0; f < 2; f++) {
                ShadowOrder x = opened(made(made(book(1, 2), 6, 1, f), 7, 1, 1 - f));
                due("the least", x.listFact(1, f, LEAST) + " " + x.listShadow(1, 6) + " " + x.listShadow(1, 7), "1 "
                    + LEAST + " " + (101 - f));
                due("the greatest", x.listFact(1, f, MOST) + " " + x.listShadow(1, 6), "1 " + MOST);
                due("the same", x.listFact(1, f, MOST) + " " + x.count(3), "0 3");
                due("the other list", x.listShadow(0, 6) + " " + x.listShadow(0, 7), f + " " + (1 - f));
            }
        });
        says("IllegalArgumentException: fact is not 0, 1", () -> {
            for (int no : new int[] {-1, 2, LEAST, MOST}) {
                leavesAll(Boundary::five, ARGUMENT, x -> x.listFact(0, no, 0));
            }
        });
        part = "Promise 15";
        says("A thing's link becomes another thing (NONE: it has none)", () -> {
            ShadowOrder x = opened(book(40, 1));
            due("the last", x.link(0, 39) + " " + x.where(0, 4) + " " + x.where(39, 4), "0 39 -1");
            due("each other", x.link(39, 0) + " " + x.where(39, 4), "0 0");
            due("none", x.link(0, NONE) + " " + x.where(0, 4) + " " + x.where(39, 4), "0 -1 0");
            due("none in place of none", x.link(0, NONE) + " " + x.count(3), "0 4");
        });
        says("IndexOutOfBoundsException, too: other is neither", () -> {
            for (int no : new int[] {-2, 5, LEAST, MOST}) {
                leavesAll(Boundary::five, INDEX, x -> x.link(1, no));
            }
            leavesAll(Boundary::openBook, INDEX, x -> x.link(1, 2));
            leavesAll(Boundary::openBook, INDEX, x -> x.link(NONE, NONE));
            due("the last thing", five().link(1, 4), 0);
        });
        says("IllegalArgumentException: both are one", () -> {
            leavesAll(Boundary::five, ARGUMENT, x -> x.link(1, 1));
            leavesAll(Boundary::five, ARGUMENT, x -> x.link(0, 0));
            leavesAll(Boundary::five, ARGUMENT, x -> x.link(4, 4));
        });
        part = "Promise 16";
        says("The first n things of a list are frozen, others are not (any more)", () -> {
            ShadowOrder x = six();
            due("in another list, too", x.freeze(1, 1) + " " + frozen(x, 6), "0 000010");
            due("all", x.freeze(0, 4) + " " + frozen(x, 6), "0 111110");
            due("fewer", x.freeze(0, 3) + " " + all(x::worked) + " " + frozen(x, 6), "1 18 111010");
            due("as many", x.freeze(0, 3) + " " + frozen(x, 6), "0 111010");
            due("more", x.freeze(0, 4) + " " + frozen(x, 6), "0 111110");
            due("none", x.freeze(0, 0) + " " + all(x::worked) + " " + frozen(x, 6), "4 0 6 12 18 000010");
        });
        says("IllegalArgumentException: n is not 0 .. how many stand there", () -> {
            for (int n : new int[] {-1, 4, LEAST, MOST}) {
                leavesAll(Boundary::five, ARGUMENT, x -> x.freeze(0, n));
            }
            leavesAll(() -> sums(1, 1), ARGUMENT, x -> x.freeze(0, 1));
            due("0 of 0", sums(1, 1).freeze(0, 0), 0);
            due("3 of 3", five().freeze(0, 3), 0);
        });
    }

    private static void groupsAndUndo() {
        part = "Promise 17";
        says("A group begins", () -> {
            ShadowOrder x = five();
            x.begin();
            due("without moves", x.count(6), 0);
            due("a move is not judged", x.take(2) + " " + x.count(6) + " " + x.shadow(2, 0), "0 1 30");
        });
        says("IllegalStateException: there is one", () -> {
            Supplier<ShadowOrder> empty = () -> {
                ShadowOrder x = five();
                x.begin();
                return x;
            };
            leavesAll(empty, STATE, Boundary::begins);
            leavesAll(Boundary::fragileGroup, STATE, Boundary::begins);
            leavesAll(Boundary::openBook, STATE, Boundary::begins);
            ShadowOrder x = five();
            due("behind end(), drop()", begins(x) + x.end() + begins(x) + x.drop() + begins(x), 0);
        });
        part = "Promise 18";
        says("The group is judged: as a move answers", () -> {
            ShadowOrder x = six();
            x.begin();
            due("an empty one", x.end() + " " + all(x::worked) + " " + x.count(3), "0  7");
            x.begin();
            x.take(5);
            x.place(5, 0, 4);
            x.fact(4, 0, 41);
            due("how many were worked", x.end() + " " + all(x::worked) + " " + x.count(6), "6 24 30 240 241 243 244 0");
        });
        says("IllegalStateException: there is none", () -> {
            leavesAll(Boundary::five, STATE, ShadowOrder::end);
            leavesAll(Boundary::openBook, STATE, ShadowOrder::end);
            leavesAll(PromisesBoundaryTests::ended, STATE, ShadowOrder::end);
            leavesAll(PromisesBoundaryTests::dropped, STATE, ShadowOrder::end);
        });
        part = "Promise 19";
        says("The group is no more, none of its moves is done", () -> {
            due("all is as it was", whole(dropped()), whole(five()));
        });
        says("how many they were", () -> {
            ShadowOrder x = five();
            x.begin();
            due("none", x.drop(), 0);
            x.begin();
            due("four", x.take(2) + x.fact(3, 0, 3) + x.fact(3, 0, 3) + x.freeze(0, 0) + " " + x.count(6) + " "
                + x.drop() + " " + x.count(6), "0 4 4 0");
            x.begin();
            due("NO and KEPT are none", x.take(4) + " " + x.take(0) + " " + x.count(6) + " " + x.drop(), "-4 -3 0 0");
        });
        says("IllegalStateException: there is none", () -> {
            leavesAll(Boundary::five, STATE, ShadowOrder::drop);
            leavesAll(Boundary::openBook, STATE, ShadowOrder::drop);
            leavesAll(PromisesBoundaryTests::ended, STATE, ShadowOrder::drop);
            leavesAll(PromisesBoundaryTests::dropped, STATE, ShadowOrder::drop);
        });
        part = "Promise 20";
        says("UNDO: how many cells have another number then, or came, or went", PromisesBoundaryTests::undoAnswers);
        says("NONE: nothing is kept", () -> {
            leavesAll(() -> sums(2, 1), NONE, ShadowOrder::undo);
            due("an empty book", opened(new ShadowOrder()).undo(), NONE);
            ShadowOrder x = stand(sums(2, 1), 0, 0);
            due("one, none", x.undo() + " " + x.undo() + " " + x.undo(), "2 -1 -1");
            ShadowOrder y = fragile();
            y.begin();
            y.take(1);
            y.drop();
            y.link(2, 1);
            y.place(3, 0, 0);
            due("refused, dropped ones and NO are not kept", y.count(3), 4);
        });
        says("IllegalStateException, too: there is a group", () -> {
            leavesAll(Boundary::fragileGroup, STATE, ShadowOrder::undo);
            leavesAll(Boundary::openBook, STATE, ShadowOrder::undo);
            Supplier<ShadowOrder> nothing = () -> {
                ShadowOrder x = sums(1, 1);
                x.begin();
                return x;
            };
            leavesAll(nothing, STATE, ShadowOrder::undo);
        });
    }

    private static ShadowOrder ended() {
        ShadowOrder x = five();
        x.begin();
        x.take(2);
        x.end();
        return x;
    }

    private static ShadowOrder dropped() {
        ShadowOrder x = five();
        x.begin();
        x.freeze(0, 0);
        x.take(0);
        x.place(4, 1, 0);
        x.fact(2, 0, 99);
        x.fact(4, 3, 99);
        x.listFact(0, 1, 99);
        x.link(3, 1);
        x.swap(2, 3);
        x.turn(1, 0, 1);
        x.tails(0, 1, 1, 0);
        x.move(4, 0, 0);
        x.freeze(0, 2);
        due("drop()", x.drop(), 12);
        return x;
    }

    private static void undoAnswers() {
        ShadowOrder x = made(made(book(3, 1), 0, 1, 0, 0, 10, 17, 0), 6, 9, 0);
        stand(opened(x), 0, 0, 1);
        x.fact(0, 0, 9);
        due("a cell was worked, but none has another number", x.undo(), 0);
        x.fact(0, 0, 19);
        due("two have another number", x.undo(), 2);
        x.listFact(0, 0, 9);
        due("none was worked", x.undo(), 0);
        x.place(2, 0, 0);
        due("one goes, one has another number", x.undo(), 2);
        x.take(0);
        due("one comes, though it has 0", x.undo(), 1);
        x.take(1);
        due("one comes, one has another number", x.undo() + " " + x.shadow(1, 0) + " " + x.listShadow(0, 6), "2 1 1");
        x.begin();
        x.take(0);
        x.place(2, 0, 0);
        x.fact(1, 0, 20);
        x.end();
        due("one comes, one goes, two have another number", x.undo(), 4);
        x.freeze(0, 2);
        due("frozen ones have the number that they had", x.undo(), 0);
        x.freeze(0, 1);
        due("the eldest are undone, too", x.undo() + " " + x.undo() + " " + x.undo() + " " + x.undo(), "0 2 1 -1");
    }

    private static void whatIsTold() {
        part = "Promise 21";
        says("The number of a thing's shadow; 0 if that is no cell", () -> {
            ShadowOrder x = opened(made(made(book(40, 1), 0, 0, 4), 5, 0, LEAST));
            due("in no list", x.shadow(39, 0) + " " + x.shadow(39, 5), "0 0");
            x.place(39, 0, 0);
            due("in a list", x.shadow(39, 0) + " " + x.shadow(39, 5), "4 " + LEAST);
            due("kinds without a maker", x.shadow(39, 1) + " " + x.shadow(39, 4), "0 0");
            x.take(39);
            due("it went", x.shadow(39, 0) + " " + x.shadow(39, 5), "0 0");
            due("the book open", openBook().shadow(0, 0), 0);
        });
        says("IllegalArgumentException: kind is not 0 .. 5", () -> {
            for (int kind : new int[] {-1, 6, 8, LEAST, MOST}) {
                leavesAll(Boundary::five, ARGUMENT, x -> x.shadow(1, kind));
                leavesAll(Boundary::openBook, ARGUMENT, x -> x.shadow(1, kind));
            }
        });
        part = "Promise 22";
        says("The number of a list's shadow; 0 if that is no cell, or the book is open", () -> {
            ShadowOrder x = made(made(book(1, 6), 6, 0, 4), 8, 0, MOST);
            due("the book open", x.listShadow(5, 6) + " " + x.listShadow(5, 8), "0 0");
            x.open();
            due("cells", x.listShadow(5, 6) + " " + x.listShadow(5, 8) + " " + x.listShadow(0, 6), "4 " + MOST + " 4");
            due("a kind without a maker", x.listShadow(5, 7), 0);
        });
        says("IllegalArgumentException: kind is not 6 .. 8", () -> {
            for (int kind : new int[] {5, 9, 0, -1, LEAST, MOST}) {
                leavesAll(Boundary::five, ARGUMENT, x -> x.listShadow(1, kind));
                leavesAll(Boundary::openBook, ARGUMENT, x -> x.listShadow(1, kind));
            }
        });
        part = "Promise 23";
        says("0 its list, 1 its place, 2 the thing before, 3 behind it, 4 its link "
            + "(NONE for these, where there is none)", () -> {
            ShadowOrder x = six();
            x.link(1, 5);
            due("one in none", standing(sums(1, 1), 0), "-1 -1 -1 -1 -1 0");
            due("the first", standing(x, 0), "0 0 -1 1 -1 0");
            due("one in between, with a link", standing(x, 1), "0 1 0 2 5 0");
            due("the last", standing(x, 3), "0 3 2 -1 -1 0");
            due("the last of another list", standing(x, 5), "1 1 4 -1 -1 0");
            ShadowOrder y = stand(sums(1, 1), 0, 0);
            due("the only one", standing(y, 0), "0 0 -1 -1 -1 0");
        });
        says("5 whether it is frozen (1, 0); 6 .. 9 its facts", () -> {
            ShadowOrder x = five();
            due("frozen, not, in none", x.where(0, 5) + " " + x.where(1, 5) + " " + x.where(4, 5), "1 0 0");
            due("the first, the last", x.where(4, 6) + " " + x.where(4, 7) + " " + x.where(4, 8) + " " + x.where(4, 9),
                "40 41 42 43");
        });
        says("(Of the plan as it stands, in a group, too.)", () -> {
            ShadowOrder x = five();
            x.begin();
            x.freeze(0, 2);
            x.place(4, 0, 2);
            x.link(2, 4);
            x.fact(4, 3, 9);
            due("in a group", standing(x, 4) + " " + x.where(4, 9) + "; " + standing(x, 2) + "; " + frozen(x, 5),
                "0 2 1 2 -1 0 9; 0 3 4 -1 4 0; 11000");
            x.drop();
            due("behind drop()", standing(x, 4) + " " + x.where(4, 9) + " " + x.where(2, 4) + " " + frozen(x, 5),
                "-1 -1 -1 -1 -1 0 43 -1 10000");
        });
        says("IllegalArgumentException: another what", () -> {
            for (int what : new int[] {-1, 10, LEAST, MOST}) {
                leavesAll(Boundary::five, ARGUMENT, x -> x.where(1, what));
                leavesAll(Boundary::openBook, ARGUMENT, x -> x.where(1, what));
            }
        });
        part = "Promise 24";
        says("The thing at a place of a list; NONE", () -> {
            ShadowOrder x = six();
            due("the first, the last", x.at(0, 0) + " " + x.at(0, 3) + " " + x.at(1, 1), "0 3 5");
            due("beyond", x.at(0, -1) + " " + x.at(0, 4) + " " + x.at(0, LEAST) + " " + x.at(0, MOST) + " " + x.at(0,
                40), "-1 -1 -1 -1 -1");
            x.take(3);
            due("it went", x.at(0, 3) + " " + x.at(0, 2), "-1 2");
            due("an empty one, the book open", openBook().at(1, 0) + " " + sums(1, 1).at(0, 0), "-1 -1");
        });
        says("(In a group, too, as it stands.)", () -> {
            ShadowOrder x = six();
            x.begin();
            x.tails(0, 3, 1, 0);
            due("in a group", row(x, 0) + "/" + row(x, 1), "0 1 2 4 5/3");
            x.drop();
            due("behind drop()", row(x, 0) + "/" + row(x, 1), "0 1 2 3/4 5");
        });
        workedOrderRing();
        causeAndCount();
    }

    private static void workedOrderRing() {
        part = "Promise 25";
        says("The k-th cell that was worked by the latest call that was judged and not refused "
            + "(open(), a move, end())", () -> {
            ShadowOrder x = fragile();
            due("by a move", all(x::worked), "7");
            due("by open()", all(opened(made(book(1, 2), 7, 0, 1))::worked), "241 244");
            x.place(0, 0, 0);
            x.link(2, 1);
            due("behind refused ones", all(x::worked), "7");
            x.place(1, 0, 0);
            x.freeze(1, 1);
            due("behind one that works none", all(x::worked), "");
            x.freeze(1, 0);
            due("behind another one", all(x::worked), "18 19");
            x.take(3);
            due("only 243 is left to work", all(x::worked), "243");
            x.begin();
            x.place(3, 1, 0);
            due("in a group", all(x::worked), "243");
            x.drop();
            due("behind drop()", all(x::worked), "243");
            x.begin();
            x.place(3, 1, 0);
            x.end();
            due("behind end()", all(x::worked), "18 19 243");
            x.begin();
            x.place(0, 1, 0);
            x.end();
            due("behind an end() that is refused", all(x::worked), "18 19 243");
        });
        says("NONE: none such", () -> {
            ShadowOrder x = stand(sums(1, 1), 0, 0);
            due("0 .. 2", x.worked(0) + " " + x.worked(1) + " " + x.worked(2), "0 240 241");
            due("beyond", x.worked(-1) + " " + x.worked(3) + " " + x.worked(258) + " " + x.worked(LEAST) + " "
                + x.worked(MOST), "-1 -1 -1 -1 -1");
            ShadowOrder y = made(book(1, 1), 6, 4, 6);
            due("ahead of open(), behind one that is refused", y.worked(0) + " " + y.open() + " " + y.worked(0),
                "-1 -1 -1");
        });
        says("(Behind undo(): none.)", () -> {
            ShadowOrder x = stand(sums(2, 1), 0, 0, 1);
            x.undo();
            due("behind undo()", x.worked(0) + " " + x.worked(1), "-1 -1");
            due("and a move that is not judged", x.take(1) + " " + x.worked(0), "-4 -1");
            due("and a move", x.place(1, 0, 1) + " " + all(x::worked), "3 6 240 241");
        });
        part = "Promise 26";
        says("The k-th cell of THE ORDER; NONE: none such, or the book is open", () -> {
            ShadowOrder x = openBook();
            due("the book open", x.order(0), NONE);
            x.open();
            x.place(1, 0, 0);
            due("0 .. 2", x.order(0) + " " + x.order(1) + " " + x.order(2), "6 240 243");
            due("beyond", x.order(-1) + " " + x.order(3) + " " + x.order(258) + " " + x.order(LEAST) + " "
                + x.order(MOST), "-1 -1 -1 -1 -1");
            x.undo();
            due("behind undo()", all(x::order), "240 243");
            ShadowOrder y = made(book(1, 1), 6, 4, 6);
            due("behind an open() that is refused", y.open() + " " + y.order(0), "-1 -1");
            ShadowOrder z = fragile();
            String order = all(z::order);
            z.link(2, 1);
            z.place(0, 0, 0);
            due("behind refused ones", all(z::order), order);
        });
        part = "Promise 27";
        says("The k-th cell of the RING by which the latest call that was judged was refused; NONE: none such", () -> {
            ShadowOrder x = fragile();
            due("behind one that is not refused", x.ring(0), NONE);
            x.link(2, 1);
            due("0, 1", x.ring(0) + " " + x.ring(1), "7 13");
            due("beyond", x.ring(-1) + " " + x.ring(2) + " " + x.ring(258) + " " + x.ring(LEAST) + " " + x.ring(MOST),
                "-1 -1 -1 -1 -1");
            x.take(0);
            x.undo();
            x.begin();
            x.take(1);
            x.drop();
            due("NO, undo() and drop() are not judged", all(x::ring), "7 13");
            x.fact(1, 0, 0);
            due("behind one that is refused by a maker", all(x::ring), "");
            x.link(1, 2);
            x.link(2, 1);
            x.begin();
            x.end();
            due("behind an empty group", all(x::ring), "");
        });
    }

    private static void causeAndCount() {
        part = "Promise 28";
        says("0 whether it was refused by a RING (1), a maker that FAILED (2), or not (0)", () -> {
            ShadowOrder x = fragile();
            due("not", verdict(x), "ring , cause 0 -1 -1 -1");
            x.link(2, 1);
            due("by a ring", verdict(x), "ring 7 13, cause 1 -1 -1 -1");
            x.place(0, 0, 0);
            due("by a maker", verdict(x), "ring , cause 2 0 1 2");
            x.link(2, 1);
            due("by a ring again", verdict(x), "ring 7 13, cause 1 -1 -1 -1");
            x.place(0, 0, 0);
            x.place(1, 0, 0);
            x.undo();
            due("NO and undo() are not judged", verdict(x), "ring , cause 2 0 1 2");
            x.begin();
            x.fact(0, 0, 1);
            due("nor is a move in a group", verdict(x), "ring , cause 2 0 1 2");
            x.end();
            due("not", verdict(x), "ring , cause 0 -1 -1 -1");
        });
        says("1 the cell that FAILED, 2 why (1, 2, 3), 3 at which step, from 0 (NONE for these three, if none did)",
            () -> {
            ShadowOrder x = made(book(40, 1), 5, 1, 0, 21, 0, 0, 9, 1, 1, 17, 0, 1, 2, 0, 1_000_000_000, 16, 0, 14, 0);
            x.open();
            x.fact(39, 0, 0);
            due("none did", verdict(x), "ring , cause 0 -1 -1 -1");
            x.fact(39, 1, 0);
            x.place(39, 0, 0);
            due("the last thing, by 0", verdict(x), "ring , cause 2 239 1 4");
            x.fact(39, 1, 1);
            x.fact(39, 2, 2_000_000);
            x.place(39, 0, 0);
            due("a number that is too great", verdict(x), "ring , cause 2 239 3 7");
            x.fact(39, 2, 1_000_000);
            x.place(39, 0, 0);
            due("10^15 + 9", verdict(x), "ring , cause 2 239 3 8");
            x.place(38, 0, 0);
            due("by 21", verdict(x), "ring , cause 2 233 2 1");
            ShadowOrder y = made(book(0, 6), 8, 1, 0, 0, -500, 14, 0, 22, 0, 17, 0);
            due("the last list", y.open() + " " + verdict(y), "-2 ring , cause 2 257 1 4");
            ShadowOrder z = made(book(0, 1), 6, 0, 0, 22, 0, 17, 0);
            due("the first list", z.open() + " " + verdict(z), "-2 ring , cause 2 240 1 2");
        });
        says("IllegalArgumentException: another what", () -> {
            for (int what : new int[] {-1, 4, LEAST, MOST}) {
                leavesAll(Boundary::five, ARGUMENT, x -> x.cause(what));
                leavesAll(Boundary::openBook, ARGUMENT, x -> x.cause(what));
            }
        });
        part = "Promise 29";
        says("0 things, 1 lists, 2 cells (0 while the book is open)", () -> {
            ShadowOrder x = made(made(book(40, 6), 0, 0, 1), 6, 0, 1);
            due("the book open", x.count(0) + " " + x.count(1) + " " + x.count(2), "40 6 0");
            x.open();
            due("closed", x.count(0) + " " + x.count(1) + " " + x.count(2), "40 6 6");
            x.place(39, 5, 0);
            due("one came", x.count(2), 7);
            x.freeze(5, 1);
            due("a frozen one is one", x.count(2), 7);
            x.begin();
            x.place(0, 0, 0);
            due("in a group", x.count(2), 7);
            x.end();
            due("behind end()", x.count(2), 8);
            x.undo();
            due("behind undo()", x.count(2), 7);
        });
        says("3 moves that can be undone", () -> {
            ShadowOrder x = fragile();
            due("four", x.count(3), 4);
            x.link(2, 1);
            x.place(0, 0, 0);
            x.take(0);
            due("refused ones and NO are none", x.count(3), 4);
            x.begin();
            x.take(1);
            x.take(2);
            due("in a group", x.count(3), 4);
            x.end();
            due("a group is one", x.count(3), 5);
            x.fact(0, 3, 3);
            due("one that works none is one", x.count(3), 6);
            x.undo();
            due("behind undo()", x.count(3), 5);
        });
        says("4 cells that were worked in all", () -> {
            ShadowOrder x = fragile();
            due("open() 2, places 3, 3, 3, link 1", x.count(4), 12);
            x.link(2, 1);
            x.fact(2, 0, 0);
            due("refused ones count for nothing", x.count(4), 12);
            x.undo();
            due("nor does undo()", x.count(4), 12);
            x.begin();
            x.fact(3, 0, 6);
            due("nor a move in a group", x.count(4), 12);
            x.end();
            due("its end() does", x.count(4), 14);
            due("nor isSame()", x.isSame() + " " + x.count(4), "true 14");
        });
        says("5 calls that were judged and refused", () -> {
            ShadowOrder x = made(book(2, 1), 6, 4, 6);
            due("open()", x.open() + " " + x.open() + " " + x.count(5), "-1 -1 2");
            made(made(x, 6, 0, 1), 0, 0, 0, 7, 0).open();
            stand(x, 0, 0, 1);
            x.link(0, 1);
            due("a move", x.link(1, 0) + " " + x.count(5), "-1 3");
            x.begin();
            x.link(1, 0);
            due("a move in a group", x.count(5), 3);
            due("end()", x.end() + " " + x.count(5), "-1 4");
            due("NO", x.place(0, 0, 0) + " " + x.count(5), "-4 4");
            due("undo()", x.undo() + " " + x.count(5), "0 4");
        });
        says("6 moves in the group", () -> {
            ShadowOrder x = five();
            due("no group", x.count(6), 0);
            x.begin();
            due("none", x.count(6), 0);
            x.take(4);
            x.take(0);
            due("NO, KEPT", x.count(6), 0);
            Call[] calls = {y -> y.place(4, 0, 1), y -> y.take(4), y -> y.move(1, 0, 2), y -> y.swap(1, 2),
                y -> y.turn(0, 1, 2), y -> y.tails(0, 3, 1, 1), y -> y.fact(4, 0, 0), y -> y.listFact(0, 0, 0),
                y -> y.link(4, 0), y -> y.freeze(0, 1)};
            for (int n = 0; n < calls.length; n++) {
                due("a move", answer(x, calls[n]) + " " + x.count(6), "0 " + (n + 1));
            }
            x.end();
            due("behind end()", x.count(6), 0);
            x.begin();
            x.take(2);
            due("another group", x.count(6), 1);
            x.drop();
            due("behind drop()", x.count(6), 0);
        });
        says("IllegalArgumentException: another what", () -> {
            for (int what : new int[] {-1, 7, LEAST, MOST}) {
                leavesAll(Boundary::five, ARGUMENT, x -> x.count(what));
                leavesAll(Boundary::openBook, ARGUMENT, x -> x.count(what));
            }
        });
        part = "Promise 30";
        says("Whether each cell that is not frozen has the number that it has when all of them are worked anew "
            + "(it is always so)", () -> {
            due("the book open", openBook().isSame() && new ShadowOrder().isSame(), true);
            ShadowOrder x = five();
            due("with a frozen one", x.isSame(), true);
            x.listFact(0, 0, 9);
            x.tails(0, 1, 1, 0);
            due("behind moves", x.isSame(), true);
            x.begin();
            x.freeze(0, 0);
            x.take(0);
            due("in a group", x.isSame(), true);
            x.end();
            due("behind end(), undo()", x.isSame() + " " + x.undo() + " " + x.isSame(), "true 1 true");
            leavesAll(Boundary::fragileGroup, 1, y -> y.isSame() ? 1 : 0);
            leavesAll(Boundary::openBook, 1, y -> y.isSame() ? 1 : 0);
            ShadowOrder z = stand(opened(made(book(2, 1), 0, 0, 60, 2, 0, 17, 0)), 0);
            z.listFact(0, 0, 6);
            stand(z, 0, 0, 1);
            z.freeze(0, 2);
            z.listFact(0, 0, 0);
            due("with frozen ones that would fail", z.isSame() + " " + z.shadow(0, 0), "true 10");
            due("freed, they fail", z.freeze(0, 1) + " " + z.isSame(), "-2 true");
            ShadowOrder u = stand(opened(made(made(book(2, 1), 0, 2, 0), 1, 0, 5, 5, 0)), 0, 0, 1);
            u.freeze(0, 1);
            u.listFact(0, 0, 9);
            due("1 reads what the frozen one has", u.shadow(1, 1) + " " + u.isSame(), "0 true");
            due("freed, and frozen again", u.freeze(0, 0) + " " + u.isSame() + " " + u.undo() + " " + u.isSame(),
                "3 true 2 true");
        });
    }
}
