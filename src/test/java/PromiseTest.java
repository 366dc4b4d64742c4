/** Each promise of the document in turn: ordinary calls, the edges it names, and wrong arguments. */
public final class PromiseTest {
    private static final int BAD_ARG = Dolls.BAD_ARG;
    private static final int NONE = Dolls.NONE;
    private static final int BARRED = Dolls.BARRED;

    private static final int[] NO_COSTS = Dolls.NO_COSTS;
    private static final int[] NO_VARIABLES = Dolls.NO_VARIABLES;
    private static final int[] NO_VALUES = Dolls.NO_VALUES;

    /** Bars every value of variable i but x. */
    private static void force(RussianDoll doll, int i, int x) {
        for (int other = 0; other < 3; other++) {
            if (other != x) {
                doll.own(i, other, BARRED);
            }
        }
    }

    private static void dueFirst(String name, RussianDoll doll, int... values) {
        for (int i = 0; i < values.length; i++) {
            Checks.due(name + ": value(" + i + ")", doll.value(i), values[i]);
        }
    }

    /** Asks for every cost by setting it to 0. */
    private static void dueAllCostsZero(String name, RussianDoll doll) {
        for (int i = 0; i < 6; i++) {
            for (int x = 0; x < 3; x++) {
                Checks.due(name + ": own(" + i + ", " + x + ", 0)", doll.own(i, x, 0), 0);
            }
            for (int j = i + 1; j < 6; j++) {
                for (int v = 0; v < 9; v++) {
                    Checks.due(name + ": pair(" + Dolls.code(i, j) + ", " + v + ", 0)", doll.pair(Dolls.code(i, j), v, 0), 0);
                }
            }
        }
    }

    private static void newObject() {
        dueAllCostsZero("1", new RussianDoll());
        RussianDoll doll = new RussianDoll();
        for (int i = 0; i < 6; i++) {
            Checks.due("1: doll(" + i + ")", doll.doll(i), 0);
            Checks.due("1: value(" + i + ")", doll.value(i), 0);
            Checks.due("1: settled(" + i + ")", doll.settled(i), false);
            for (int x = 0; x < 3; x++) {
                Checks.due("1: with(" + i + ", " + x + ")", doll.with(i, x), 0);
            }
        }
        Checks.due("1: cheapest()", doll.cheapest(), 0);
        Checks.due("1: second()", doll.second(), 0);
        Checks.due("1: zigzag()", doll.zigzag(), 0);

        RussianDoll other = new RussianDoll();
        Dolls.bar(other, 0);
        Checks.due("1: objects share nothing", doll.cheapest(), 0);
    }

    private static void own() {
        RussianDoll doll = new RussianDoll();
        for (int i = 0; i < 6; i++) {
            for (int x = 0; x < 3; x++) {
                Checks.due("2: first cost", doll.own(i, x, 3 * i + x), 0);
            }
        }
        for (int i = 0; i < 6; i++) {
            for (int x = 0; x < 3; x++) {
                Checks.due("2: cost before", doll.own(i, x, 30), 3 * i + x);
                Checks.due("2: greatest cost before", doll.own(i, x, BARRED), 30);
                Checks.due("2: BARRED before", doll.own(i, x, 7), BARRED);
            }
        }
        for (int i : NO_VARIABLES) {
            Checks.due("2: own(" + i + ", 0, 1)", doll.own(i, 0, 1), BAD_ARG);
        }
        for (int x : NO_VALUES) {
            Checks.due("2: own(1, " + x + ", 1)", doll.own(1, x, 1), BAD_ARG);
        }
        for (int c : NO_COSTS) {
            Checks.due("2: own(1, 1, " + c + ")", doll.own(1, 1, c), BAD_ARG);
        }
        for (int i = 0; i < 6; i++) {
            for (int x = 0; x < 3; x++) {
                Checks.due("2: refused calls change nothing", doll.own(i, x, 0), 7);
            }
        }
    }

    private static void pair() {
        // Two objects, so that none is asked more than 512 calls.
        for (int parity = 0; parity < 2; parity++) {
            RussianDoll doll = new RussianDoll();
            for (int number = -2; number < 38; number++) {
                int i = Math.floorDiv(number, 6);
                int j = Math.floorMod(number, 6);
                boolean good = i >= 0 && j < 6 && i < j;
                for (int v = parity; v < 9; v += 2) {
                    int due = good ? 0 : BAD_ARG;
                    Checks.due("3: pair(" + number + ", " + v + ", c)", doll.pair(number, v, (number + v + 31) % 31), due);
                }
            }
            for (int i = 0; i < 6; i++) {
                for (int j = i + 1; j < 6; j++) {
                    for (int v = parity; v < 9; v += 2) {
                        int number = Dolls.code(i, j);
                        Checks.due("3: cost before " + number + ", " + v, doll.pair(number, v, BARRED), (number + v) % 31);
                        Checks.due("3: BARRED before", doll.pair(number, v, 30), BARRED);
                    }
                }
            }
        }
        RussianDoll doll = new RussianDoll();
        doll.pair(1, 0, 5);
        for (int number : new int[] {Integer.MIN_VALUE, -5, -1, 0, 6, 7, 14, 30, 34, 35, 36, 37, Integer.MAX_VALUE}) {
            Checks.due("3: pair(" + number + ", 0, 1)", doll.pair(number, 0, 1), BAD_ARG);
        }
        for (int v : new int[] {Integer.MIN_VALUE, -1, 9, 10, Integer.MAX_VALUE}) {
            Checks.due("3: pair(1, " + v + ", 1)", doll.pair(1, v, 1), BAD_ARG);
        }
        for (int c : NO_COSTS) {
            Checks.due("3: pair(1, 0, " + c + ")", doll.pair(1, 0, c), BAD_ARG);
        }
        Checks.due("3: refused calls change nothing", doll.pair(1, 0, 0), 5);
        dueAllCostsZero("3: refused calls change nothing", doll);
    }

    private static void pairNamesItsValues() {
        RussianDoll doll = Dolls.only(1, 0, 2, 0, 0, 0);
        doll.pair(Dolls.code(0, 2), 3 * 1 + 2, 13);
        doll.pair(Dolls.code(0, 2), 3 * 2 + 1, 20);
        Checks.due("3: x is of i and y of j", doll.cheapest(), 13);
    }

    private static void relate() {
        int[] sames = {1, 0, -1, 2, Integer.MIN_VALUE, Integer.MAX_VALUE};
        for (int same : sames) {
            RussianDoll doll = new RussianDoll();
            for (int v = 0; v < 9; v++) {
                doll.pair(15, v, 20 + v);
            }
            doll.own(2, 0, 11);
            Checks.due("4: relate(15, " + same + ", 5)", doll.relate(15, same, 5), 0);
            for (int v = 0; v < 9; v++) {
                boolean changed = (v % 4 == 0) == (same != 0);
                Checks.due("4: same " + same + ", values " + v, doll.pair(15, v, 0), changed ? 5 : 20 + v);
            }
            Checks.due("4: own costs stay", doll.own(2, 0, 0), 11);
            dueAllCostsZero("4: other pairs stay", doll);
        }
        for (int i = 0; i < 6; i++) {
            for (int j = 0; j < 6; j++) {
                RussianDoll doll = new RussianDoll();
                int due = i < j ? 0 : BAD_ARG;
                Checks.due("4: relate(" + Dolls.code(i, j) + ", 1, 30)", doll.relate(Dolls.code(i, j), 1, 30), due);
                Checks.due("4: relate(" + Dolls.code(i, j) + ", 0, 99)", doll.relate(Dolls.code(i, j), 0, BARRED), due);
                Checks.due("4: after relate", doll.cheapest(), i < j ? 30 : 0);
            }
        }
    }

    private static void relateRefused() {
        RussianDoll doll = new RussianDoll();
        for (int number : new int[] {Integer.MIN_VALUE, -1, 36, 37, Integer.MAX_VALUE}) {
            Checks.due("4: relate(" + number + ", 1, 1)", doll.relate(number, 1, 1), BAD_ARG);
        }
        for (int c : NO_COSTS) {
            Checks.due("4: relate(1, 1, " + c + ")", doll.relate(1, 1, c), BAD_ARG);
            Checks.due("4: relate(1, 0, " + c + ")", doll.relate(1, 0, c), BAD_ARG);
        }
        dueAllCostsZero("4: refused calls change nothing", doll);
    }

    private static void clear() {
        RussianDoll doll = new RussianDoll();
        for (int i = 0; i < 6; i++) {
            Dolls.bar(doll, i);
            for (int j = i + 1; j < 6; j++) {
                doll.relate(Dolls.code(i, j), 0, 30);
                doll.relate(Dolls.code(i, j), 1, BARRED);
            }
        }
        Checks.due("5: before clear", doll.cheapest(), NONE);
        doll.clear();
        Checks.due("5: after clear", doll.cheapest(), 0);
        dueAllCostsZero("5", doll);
        Checks.due("5: it can be used on", doll.own(5, 2, 9), 0);
        Checks.due("5: it can be used on", doll.with(5, 2), 9);
    }

    private static void doll() {
        RussianDoll doll = new RussianDoll();
        for (int i = 0; i < 6; i++) {
            for (int x = 0; x < 3; x++) {
                doll.own(i, x, i + 1 + x);
            }
        }
        doll.relate(Dolls.code(2, 4), 0, 20);
        doll.relate(Dolls.code(2, 4), 1, 10);
        int[] due = {31, 30, 28, 15, 11, 6};
        for (int i = 0; i < 6; i++) {
            Checks.due("6: doll(" + i + ")", doll.doll(i), due[i]);
        }
        Dolls.bar(doll, 3);
        for (int i = 0; i < 6; i++) {
            Checks.due("6: doll(" + i + ") with 3 barred", doll.doll(i), i <= 3 ? NONE : due[i]);
        }
        for (int i : NO_VARIABLES) {
            Checks.due("6: doll(" + i + ")", doll.doll(i), BAD_ARG);
        }
    }

    private static void dollLeavesEarlierOut() {
        RussianDoll doll = new RussianDoll();
        doll.relate(Dolls.code(1, 5), 0, BARRED);
        doll.relate(Dolls.code(1, 5), 1, BARRED);
        Checks.due("6: pair with an earlier variable", doll.doll(2), 0);
        Checks.due("6: pair of its own", doll.doll(1), NONE);
        Checks.due("6: doll(0)", doll.doll(0), NONE);
    }

    private static void cheapest() {
        RussianDoll dear = new RussianDoll();
        for (int i = 0; i < 6; i++) {
            for (int x = 0; x < 3; x++) {
                dear.own(i, x, 30);
            }
            for (int j = i + 1; j < 6; j++) {
                dear.relate(Dolls.code(i, j), 0, 30);
                dear.relate(Dolls.code(i, j), 1, 30);
            }
        }
        Checks.due("7: everything at its dearest", dear.cheapest(), 21 * 30);
        dear.own(4, 1, 29);
        Checks.due("7: one cheaper", dear.cheapest(), 21 * 30 - 1);

        RussianDoll trap = new RussianDoll();
        trap.own(0, 1, 2);
        trap.own(0, 2, 3);
        trap.pair(Dolls.code(0, 5), 0, 30);
        trap.pair(Dolls.code(0, 5), 1, 30);
        trap.pair(Dolls.code(0, 5), 2, 30);
        Checks.due("7: not the cheapest value by itself", trap.cheapest(), 2);

        for (int i = 0; i < 6; i++) {
            RussianDoll none = new RussianDoll();
            Dolls.bar(none, i);
            Checks.due("7: variable " + i + " has no value", none.cheapest(), NONE);
        }
        RussianDoll four = new RussianDoll();
        for (int i = 0; i < 4; i++) {
            for (int j = i + 1; j < 4; j++) {
                four.relate(Dolls.code(i, j), 1, BARRED);
            }
        }
        Checks.due("7: four different ones of three values", four.cheapest(), NONE);
    }

    private static void value() {
        dueFirst("8: the only one", Dolls.only(2, 0, 1, 1, 2, 0), 2, 0, 1, 1, 2, 0);

        RussianDoll ties = new RussianDoll();
        ties.relate(Dolls.code(0, 1), 1, 1);
        ties.relate(Dolls.code(4, 5), 1, 1);
        dueFirst("8: first of many", ties, 0, 1, 0, 0, 0, 1);

        RussianDoll tradeOff = new RussianDoll();
        tradeOff.pair(Dolls.code(0, 5), 0, 3);
        tradeOff.own(5, 2, BARRED);
        dueFirst("8: variable 0 comes first in the order", tradeOff, 0, 0, 0, 0, 0, 1);

        RussianDoll late = new RussianDoll();
        late.own(0, 0, 4);
        late.own(0, 1, 3);
        late.own(0, 2, 3);
        dueFirst("8: cheap before early", late, 1, 0, 0, 0, 0, 0);

        RussianDoll none = new RussianDoll();
        Dolls.bar(none, 5);
        dueFirst("8: none allowed", none, NONE, NONE, NONE, NONE, NONE, NONE);
        for (int i : NO_VARIABLES) {
            Checks.due("8: value(" + i + ")", late.value(i), BAD_ARG);
        }
    }

    private static void with() {
        RussianDoll doll = new RussianDoll();
        doll.own(3, 0, 5);
        doll.own(3, 1, 8);
        doll.own(3, 2, BARRED);
        doll.relate(Dolls.code(3, 4), 1, 2);
        doll.own(4, 1, 1);
        doll.own(4, 2, 4);
        int[][] due = {{6, 6, 6}, {6, 6, 6}, {6, 6, 6}, {6, 8, NONE}, {7, 6, 9}, {6, 6, 6}};
        for (int i = 0; i < 6; i++) {
            for (int x = 0; x < 3; x++) {
                Checks.due("9: with(" + i + ", " + x + ")", doll.with(i, x), due[i][x]);
            }
        }
        for (int i : NO_VARIABLES) {
            Checks.due("9: with(" + i + ", 0)", doll.with(i, 0), BAD_ARG);
        }
        for (int x : NO_VALUES) {
            Checks.due("9: with(3, " + x + ")", doll.with(3, x), BAD_ARG);
        }
        Dolls.bar(doll, 0);
        Checks.due("9: none allowed", doll.with(5, 0), NONE);
    }

    private static void settled() {
        RussianDoll only = Dolls.only(0, 1, 2, 0, 1, 2);
        for (int i = 0; i < 6; i++) {
            Checks.due("10: the only one, settled(" + i + ")", only.settled(i), true);
        }

        RussianDoll some = new RussianDoll();
        some.own(1, 0, 1);
        some.own(1, 2, 1);
        some.own(4, 1, 2);
        Checks.due("10: one cheapest value", some.settled(1), true);
        Checks.due("10: two cheapest values", some.settled(4), false);
        Checks.due("10: three cheapest values", some.settled(0), false);
        some.own(4, 2, 2);
        Checks.due("10: the others dearer", some.settled(4), true);
        some.own(1, 2, 0);
        Checks.due("10: the last value as cheap", some.settled(1), false);

        RussianDoll none = new RussianDoll();
        Dolls.bar(none, 2);
        for (int i = 0; i < 6; i++) {
            Checks.due("10: none allowed, settled(" + i + ")", none.settled(i), false);
        }
        for (int i : NO_VARIABLES) {
            Checks.due("10: settled(" + i + ")", only.settled(i), false);
        }
    }

    private static void second() {
        RussianDoll only = Dolls.only(0, 1, 2, 0, 1, 2);
        Checks.due("11: only one allowed", only.second(), NONE);
        only.own(5, 0, 17);
        Checks.due("11: one other", only.second(), 17);
        only.own(0, 0, 6);
        Checks.due("11: own costs count in both", only.second(), 23);
        only.own(5, 0, 0);
        Checks.due("11: the second is as cheap", only.second(), 6);
        only.own(0, 0, BARRED);
        Checks.due("11: none allowed", only.second(), NONE);

        RussianDoll last = new RussianDoll();
        for (int i = 0; i < 6; i++) {
            last.own(i, 0, 9);
            last.own(i, 1, i == 2 ? 4 : 9);
        }
        Checks.due("11: the first of the cheapest is the last in order", last.second(), 4);
        Checks.due("11: and the cheapest stays", last.cheapest(), 0);
    }

    private static void zigzag() {
        for (int i = 0; i < 5; i++) {
            RussianDoll doll = new RussianDoll();
            doll.relate(Dolls.code(i, i + 1), 0, 12);
            Checks.due("12: " + i + " and the next want to be the same", doll.zigzag(), 12);
            Checks.due("12: cheapest is free of that", doll.cheapest(), 0);
            force(doll, i, 1);
            force(doll, i + 1, 1);
            Checks.due("12: " + i + " and the next must be the same", doll.zigzag(), NONE);
            Checks.due("12: which is allowed", doll.cheapest(), 0);
        }
        RussianDoll apart = Dolls.only(0, 1, 0, 1, 0, 1);
        apart.own(3, 1, 8);
        Checks.due("12: only neighbours must differ", apart.zigzag(), 8);
        Checks.due("12: the ends may be the same", Dolls.only(0, 1, 2, 1, 2, 0).zigzag(), 0);
        Dolls.bar(apart, 5);
        Checks.due("12: none allowed", apart.zigzag(), NONE);
    }

    /** The first and the last of all assignments are looked at like any other. */
    private static void endsOfTheOrder() {
        RussianDoll first = Dolls.only(0, 0, 0, 0, 0, 0);
        first.own(2, 0, 6);
        RussianDoll last = Dolls.only(2, 2, 2, 2, 2, 2);
        last.own(3, 2, 7);
        for (int i = 0; i < 6; i++) {
            Checks.due("9: first of all, with(" + i + ", 0)", first.with(i, 0), 6);
            Checks.due("9: last of all, with(" + i + ", 2)", last.with(i, 2), 7);
        }
        Checks.due("7: first of all", first.cheapest(), 6);
        Checks.due("7: last of all", last.cheapest(), 7);
        dueFirst("8: first of all", first, 0, 0, 0, 0, 0, 0);
        dueFirst("8: last of all", last, 2, 2, 2, 2, 2, 2);

        first.own(5, 1, 0);
        first.own(5, 0, 4);
        Checks.due("11: the other is the first of all", first.second(), 10);
        last.own(5, 1, 0);
        Checks.due("11: the other is the last of all", last.second(), 7);
        Checks.due("10: the other is the last of all", last.settled(5), false);
    }

    private static void orderAndLimits() {
        RussianDoll none = new RussianDoll();
        Dolls.bar(none, 5);
        for (int i : NO_VARIABLES) {
            Checks.due("13: doll(" + i + ")", none.doll(i), BAD_ARG);
            Checks.due("13: value(" + i + ")", none.value(i), BAD_ARG);
            Checks.due("13: with(" + i + ", 0)", none.with(i, 0), BAD_ARG);
            Checks.due("13: settled(" + i + ")", none.settled(i), false);
        }
        for (int x : NO_VALUES) {
            Checks.due("13: with(0, " + x + ")", none.with(0, x), BAD_ARG);
        }
        Checks.due("13: good arguments", none.doll(5), NONE);
        Checks.due("13: good arguments", none.value(5), NONE);
        Checks.due("13: good arguments", none.with(5, 2), NONE);
    }

    private static void questionsChangeNothing() {
        RussianDoll doll = new RussianDoll();
        doll.own(0, 0, 3);
        doll.relate(Dolls.code(1, 2), 1, 4);
        for (int round = 0; round < 2; round++) {
            Checks.due("terms: doll(1)", doll.doll(1), 0);
            Checks.due("terms: cheapest()", doll.cheapest(), 0);
            Checks.due("terms: value(0)", doll.value(0), 1);
            Checks.due("terms: with(0, 0)", doll.with(0, 0), 3);
            Checks.due("terms: settled(0)", doll.settled(0), false);
            Checks.due("terms: second()", doll.second(), 0);
            Checks.due("terms: zigzag()", doll.zigzag(), 0);
        }
        Checks.due("terms: own cost stays", doll.own(0, 0, 0), 3);
        Checks.due("terms: pair cost stays", doll.pair(Dolls.code(1, 2), 4, 4), 4);
        doll.relate(Dolls.code(1, 2), 1, 0);
        dueAllCostsZero("terms", doll);
    }

    public static void main(String[] args) {
        Checks.test("newObject", PromiseTest::newObject);
        Checks.test("own", PromiseTest::own);
        Checks.test("pair", PromiseTest::pair);
        Checks.test("pairNamesItsValues", PromiseTest::pairNamesItsValues);
        Checks.test("relate", PromiseTest::relate);
        Checks.test("relateRefused", PromiseTest::relateRefused);
        Checks.test("clear", PromiseTest::clear);
        Checks.test("doll", PromiseTest::doll);
        Checks.test("dollLeavesEarlierOut", PromiseTest::dollLeavesEarlierOut);
        Checks.test("cheapest", PromiseTest::cheapest);
        Checks.test("value", PromiseTest::value);
        Checks.test("with", PromiseTest::with);
        Checks.test("settled", PromiseTest::settled);
        Checks.test("second", PromiseTest::second);
        Checks.test("zigzag", PromiseTest::zigzag);
        Checks.test("endsOfTheOrder", PromiseTest::endsOfTheOrder);
        Checks.test("orderAndLimits", PromiseTest::orderAndLimits);
        Checks.test("questionsChangeNothing", PromiseTest::questionsChangeNothing);
        Checks.end();
    }
}
