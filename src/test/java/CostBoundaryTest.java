import java.util.Arrays;

/** The boundary cases of promises 1 to 5, a test for each sentence that names one. */
public final class CostBoundaryTest {
    private static final int C = Dolls.UNUSED_COST;

    private static void refusedOwn(int[] variables, int[] values, int[] costs) {
        for (int i : variables) {
            for (int x : values) {
                for (int c : costs) {
                    String name = "own(" + i + ", " + x + ", " + c + ")";
                    Dolls.dueRefused(name, doll -> doll.own(i, x, c), Dolls.BAD_ARG);
                }
            }
        }
    }

    private static void refusedPair(int[] pairs, int[] values, int[] costs) {
        for (int pair : pairs) {
            for (int v : values) {
                for (int c : costs) {
                    String name = "pair(" + pair + ", " + v + ", " + c + ")";
                    Dolls.dueRefused(name, doll -> doll.pair(pair, v, c), Dolls.BAD_ARG);
                }
            }
        }
    }

    private static void refusedRelate(int[] pairs, int[] costs) {
        for (int pair : pairs) {
            for (int same : new int[] {0, 1}) {
                for (int c : costs) {
                    String name = "relate(" + pair + ", " + same + ", " + c + ")";
                    Dolls.dueRefused(name, doll -> doll.relate(pair, same, c), Dolls.BAD_ARG);
                }
            }
        }
    }

    private static int[] list(int... numbers) {
        return numbers;
    }

    private static void newCosts() {
        Dolls.dueCosts("new", new RussianDoll(), Dolls.BLANK);
    }

    private static void newAnswers() {
        int[] due = new int[39];
        Checks.due("all answers 0 or false", Arrays.equals(Dolls.answers(new RussianDoll()), due), true);
    }

    private static void newBesideAnOld() {
        RussianDoll old = Dolls.with(Dolls.ALL_BARRED);
        RussianDoll fresh = new RussianDoll();
        Checks.due("the old one", old.cheapest(), Dolls.NONE);
        Checks.due("the new one", fresh.cheapest(), 0);
        Dolls.dueCosts("new beside an old one", fresh, Dolls.BLANK);
        Dolls.dueCosts("old beside a new one", old, Dolls.ALL_BARRED);
    }

    /** Every place in turn: the cost before is answered, and this cost alone is another one. */
    private static void duePutAlone(int from, int to) {
        for (int place = from; place < to; place++) {
            for (int c : new int[] {0, C, 30, Dolls.BARRED}) {
                int[] costs = Dolls.MIXED.clone();
                RussianDoll doll = Dolls.with(costs);
                Checks.due("place " + place + " to " + c, Dolls.put(doll, place, c), costs[place]);
                costs[place] = c;
                Dolls.dueCosts("place " + place + " at " + c, doll, costs);
            }
        }
    }

    private static void dueBefore(int place) {
        RussianDoll doll = new RussianDoll();
        Checks.due("0 before", Dolls.put(doll, place, 0), 0);
        Checks.due("0 before, again", Dolls.put(doll, place, 30), 0);
        Checks.due("30 before", Dolls.put(doll, place, 30), 30);
        Checks.due("30 before, again", Dolls.put(doll, place, Dolls.BARRED), 30);
        Checks.due("BARRED before", Dolls.put(doll, place, Dolls.BARRED), Dolls.BARRED);
        Checks.due("BARRED before, again", Dolls.put(doll, place, 1), Dolls.BARRED);
        Checks.due("1 before", Dolls.put(doll, place, 29), 1);
        Checks.due("29 before", Dolls.put(doll, place, 0), 29);
        Checks.due("back at 0", Dolls.put(doll, place, 0), 0);
    }

    private static void ownChangesOneCost() {
        duePutAlone(0, 18);
    }

    private static void ownFirstAndLast() {
        for (int i : new int[] {0, 5}) {
            for (int x : new int[] {0, 2}) {
                for (int c : new int[] {0, 30, Dolls.BARRED}) {
                    RussianDoll doll = new RussianDoll();
                    String name = "own(" + i + ", " + x + ", " + c + ")";
                    Checks.due(name, doll.own(i, x, c), 0);
                    Checks.due("after " + name, doll.with(i, x), c == Dolls.BARRED ? Dolls.NONE : c);
                }
            }
        }
    }

    private static void ownVariableTooSmall() {
        refusedOwn(Dolls.SMALL_VARIABLES, list(0, 2, 3), list(C, Dolls.BARRED));
    }

    private static void ownVariableTooLarge() {
        refusedOwn(Dolls.LARGE_VARIABLES, list(-1, 0, 2), list(C, Dolls.BARRED));
    }

    private static void ownValueTooSmall() {
        refusedOwn(list(0, 1, 5), Dolls.SMALL_VALUES, list(C));
    }

    private static void ownValueTooLarge() {
        refusedOwn(list(0, 4, 5), Dolls.LARGE_VALUES, list(C));
    }

    private static void ownCostTooSmall() {
        refusedOwn(list(0, 5), list(0, 2), Dolls.SMALL_COSTS);
    }

    private static void ownCostBetween() {
        refusedOwn(list(0, 5), list(2), Dolls.COSTS_BELOW_BARRED);
    }

    private static void ownCostTooLarge() {
        refusedOwn(list(0, 5), list(0, 2), Dolls.COSTS_ABOVE_BARRED);
    }

    private static void ownAllWrong() {
        refusedOwn(list(-1, 6), list(-1, 3), list(-1, 31, 98, 100));
    }

    private static void ownBefore() {
        for (int place = 0; place < 18; place++) {
            dueBefore(place);
        }
    }

    private static void pairChangesOneCost() {
        duePutAlone(18, 153);
    }

    private static void pairFirstAndLast() {
        for (int v : new int[] {0, 8}) {
            for (int c : new int[] {0, 30, Dolls.BARRED}) {
                RussianDoll first = new RussianDoll();
                Checks.due("pair(1, " + v + ", " + c + ")", first.pair(1, v, c), 0);
                Checks.due("pair(1, " + v + ", 0)", first.pair(1, v, 0), c);
                RussianDoll last = new RussianDoll();
                Checks.due("pair(29, " + v + ", " + c + ")", last.pair(29, v, c), 0);
                Checks.due("pair(29, " + v + ", 0)", last.pair(29, v, 0), c);
            }
        }
    }

    /** Each pair number and each values number stands for exactly these two variables and values. */
    private static void pairNumbers() {
        for (int i = 0; i < 6; i++) {
            for (int j = i + 1; j < 6; j++) {
                for (int v = 0; v < 9; v++) {
                    int[] values = {1, 1, 1, 1, 1, 1};
                    values[i] = v / 3;
                    values[j] = v % 3;
                    RussianDoll doll = Dolls.only(values);
                    doll.pair(6 * i + j, 3 * values[i] + values[j], 30);
                    Checks.due("pair(" + (6 * i + j) + ", " + v + ", 30)", doll.cheapest(), 30);
                }
            }
        }
    }

    private static void pairTooSmall() {
        refusedPair(Dolls.SMALL_PAIRS, list(0, 8, 9), list(C));
    }

    private static void pairTooLarge() {
        refusedPair(Dolls.LARGE_PAIRS, list(-1, 0, 8), list(C));
    }

    private static void pairOfOneVariable() {
        refusedPair(Dolls.EQUAL_PAIRS, list(0, 4, 8), list(C));
    }

    private static void pairTurned() {
        refusedPair(Dolls.TURNED_PAIRS, list(0, 1, 8), list(C));
    }

    private static void pairValuesTooSmall() {
        refusedPair(list(1, 2, 29), Dolls.SMALL_VALUE_PAIRS, list(C));
    }

    private static void pairValuesTooLarge() {
        refusedPair(list(1, 23, 29), Dolls.LARGE_VALUE_PAIRS, list(C));
    }

    private static void pairCostTooSmall() {
        refusedPair(list(1, 29), list(0, 8), Dolls.SMALL_COSTS);
    }

    private static void pairCostBetween() {
        refusedPair(list(1, 29), list(8), Dolls.COSTS_BELOW_BARRED);
    }

    private static void pairCostTooLarge() {
        refusedPair(list(1, 29), list(0, 8), Dolls.COSTS_ABOVE_BARRED);
    }

    private static void pairAllWrong() {
        refusedPair(list(-1, 0, 6, 36), list(-1, 9), list(-1, 31, 98, 100));
    }

    private static void pairBefore() {
        for (int place = 18; place < 153; place++) {
            dueBefore(place);
        }
    }

    private static void dueRelate(int pair, int same, int c) {
        int[] costs = Dolls.MIXED.clone();
        RussianDoll doll = Dolls.with(costs);
        String name = "relate(" + pair + ", " + same + ", " + c + ")";
        Checks.due(name, doll.relate(pair, same, c), 0);
        for (int x = 0; x < 3; x++) {
            for (int y = 0; y < 3; y++) {
                if ((x == y) == (same != 0)) {
                    costs[Dolls.pairPlace(pair, 3 * x + y)] = c;
                }
            }
        }
        Dolls.dueCosts("after " + name, doll, costs);
    }

    private static void relateSameValues() {
        for (int pair : Dolls.PAIRS) {
            for (int c : new int[] {0, C, 30, Dolls.BARRED}) {
                dueRelate(pair, 1, c);
            }
        }
    }

    private static void relateDifferentValues() {
        for (int pair : Dolls.PAIRS) {
            for (int c : new int[] {0, C, 30, Dolls.BARRED}) {
                dueRelate(pair, 0, c);
            }
        }
    }

    private static void relateAnythingButZero() {
        int[] sames = {1, -1, 2, -2, 3, 8, 9, 32, 256, -256, 65536, 1 << 30, Integer.MIN_VALUE, Integer.MAX_VALUE};
        for (int same : sames) {
            dueRelate(1, same, C);
            dueRelate(29, same, Dolls.BARRED);
        }
    }

    private static void relateBothWays() {
        for (int pair : Dolls.PAIRS) {
            RussianDoll doll = new RussianDoll();
            doll.relate(pair, 0, Dolls.BARRED);
            Checks.due("pair " + pair + ": the same is left", doll.cheapest(), 0);
            doll.relate(pair, 1, Dolls.BARRED);
            Checks.due("pair " + pair + ": nothing is left", doll.cheapest(), Dolls.NONE);
            doll.relate(pair, 0, 30);
            Checks.due("pair " + pair + ": others are left", doll.cheapest(), 30);
            doll.relate(pair, 1, 29);
            Checks.due("pair " + pair + ": both are left", doll.cheapest(), 29);
        }
    }

    private static void relateAnswersZero() {
        for (int[] costs : new int[][] {Dolls.BLANK, Dolls.DEAREST, Dolls.ALL_BARRED, Dolls.MIXED}) {
            RussianDoll doll = Dolls.with(costs);
            for (int pair : Dolls.PAIRS) {
                for (int same = 0; same < 2; same++) {
                    Checks.due("relate(" + pair + ", " + same + ", 30)", doll.relate(pair, same, 30), 0);
                    Checks.due("relate(" + pair + ", " + same + ", 99)", doll.relate(pair, same, Dolls.BARRED), 0);
                    Checks.due("relate(" + pair + ", " + same + ", 0)", doll.relate(pair, same, 0), 0);
                }
            }
        }
    }

    private static void relatePairTooSmall() {
        refusedRelate(Dolls.SMALL_PAIRS, list(C));
    }

    private static void relatePairTooLarge() {
        refusedRelate(Dolls.LARGE_PAIRS, list(C));
    }

    private static void relateOneVariable() {
        refusedRelate(Dolls.EQUAL_PAIRS, list(C));
    }

    private static void relateTurned() {
        refusedRelate(Dolls.TURNED_PAIRS, list(C));
    }

    private static void relateCostTooSmall() {
        refusedRelate(list(1, 29), Dolls.SMALL_COSTS);
    }

    private static void relateCostBetween() {
        refusedRelate(list(1, 29), Dolls.COSTS_BELOW_BARRED);
    }

    private static void relateCostTooLarge() {
        refusedRelate(list(1, 29), Dolls.COSTS_ABOVE_BARRED);
    }

    private static void relateAllWrong() {
        refusedRelate(list(-1, 0, 6, 36), list(-1, 31, 98, 100));
    }

    private static void dueCleared(int[] costs) {
        RussianDoll doll = Dolls.with(costs);
        doll.clear();
        Checks.due("all answers 0 or false", Arrays.equals(Dolls.answers(doll), new int[39]), true);
        Dolls.dueCosts("cleared", doll, Dolls.BLANK);
    }

    private static void clearWithNothingToClear() {
        dueCleared(Dolls.BLANK);
    }

    private static void clearEverything() {
        dueCleared(Dolls.DEAREST);
        dueCleared(Dolls.ALL_BARRED);
        dueCleared(Dolls.MIXED);
    }

    private static void clearOneCost() {
        for (int place = 0; place < 153; place++) {
            RussianDoll doll = new RussianDoll();
            Dolls.put(doll, place, Dolls.BARRED);
            doll.clear();
            Checks.due("place " + place + " after clear", Dolls.put(doll, place, 0), 0);
        }
    }

    private static void clearAgain() {
        RussianDoll doll = Dolls.with(Dolls.MIXED);
        doll.clear();
        doll.clear();
        Dolls.dueCosts("cleared twice", doll, Dolls.BLANK);
        Dolls.bar(doll, 5);
        Checks.due("it can be barred again", doll.cheapest(), Dolls.NONE);
        doll.clear();
        Checks.due("and cleared again", doll.cheapest(), 0);
    }

    private static void clearOneObject() {
        RussianDoll other = Dolls.with(Dolls.MIXED);
        new RussianDoll().clear();
        Dolls.dueCosts("another one was cleared", other, Dolls.MIXED);
    }

    private static void promiseOne() {
        Checks.test("1: All costs are 0", CostBoundaryTest::newCosts);
        Checks.test("1: All costs are 0, asked by questions", CostBoundaryTest::newAnswers);
        Checks.test("1: All costs are 0 whatever another object holds", CostBoundaryTest::newBesideAnOld);
    }

    private static void promiseTwo() {
        Checks.test("2: The own cost of value x of variable i becomes c", CostBoundaryTest::ownChangesOneCost);
        Checks.test("2: the first and the last i, x and c", CostBoundaryTest::ownFirstAndLast);
        Checks.test("2: i not 0 to 5: too small", CostBoundaryTest::ownVariableTooSmall);
        Checks.test("2: i not 0 to 5: too large", CostBoundaryTest::ownVariableTooLarge);
        Checks.test("2: x not 0 to 2: too small", CostBoundaryTest::ownValueTooSmall);
        Checks.test("2: x not 0 to 2: too large", CostBoundaryTest::ownValueTooLarge);
        Checks.test("2: c neither 0 to 30 nor BARRED: too small", CostBoundaryTest::ownCostTooSmall);
        Checks.test("2: c neither 0 to 30 nor BARRED: between", CostBoundaryTest::ownCostBetween);
        Checks.test("2: c neither 0 to 30 nor BARRED: too large", CostBoundaryTest::ownCostTooLarge);
        Checks.test("2: BAD_ARG for several reasons at once", CostBoundaryTest::ownAllWrong);
        Checks.test("2: Otherwise the cost before", CostBoundaryTest::ownBefore);
    }

    private static void promiseThree() {
        Checks.test("3: The pair cost becomes c", CostBoundaryTest::pairChangesOneCost);
        Checks.test("3: the first and the last pair, values and c", CostBoundaryTest::pairFirstAndLast);
        Checks.test("3: pair = 6 i + j and values = 3 x + y", CostBoundaryTest::pairNumbers);
        Checks.test("3: i and j from 0 to 5: pair too small", CostBoundaryTest::pairTooSmall);
        Checks.test("3: i and j from 0 to 5: pair too large", CostBoundaryTest::pairTooLarge);
        Checks.test("3: i < j: i = j", CostBoundaryTest::pairOfOneVariable);
        Checks.test("3: i < j: i > j", CostBoundaryTest::pairTurned);
        Checks.test("3: values not 0 to 8: too small", CostBoundaryTest::pairValuesTooSmall);
        Checks.test("3: values not 0 to 8: too large", CostBoundaryTest::pairValuesTooLarge);
        Checks.test("3: c neither 0 to 30 nor BARRED: too small", CostBoundaryTest::pairCostTooSmall);
        Checks.test("3: c neither 0 to 30 nor BARRED: between", CostBoundaryTest::pairCostBetween);
        Checks.test("3: c neither 0 to 30 nor BARRED: too large", CostBoundaryTest::pairCostTooLarge);
        Checks.test("3: BAD_ARG for several reasons at once", CostBoundaryTest::pairAllWrong);
        Checks.test("3: Otherwise the cost before", CostBoundaryTest::pairBefore);
    }

    private static void promiseFour() {
        Checks.test("4: all pairs of the same value", CostBoundaryTest::relateSameValues);
        Checks.test("4: or of different values (if same is 0)", CostBoundaryTest::relateDifferentValues);
        Checks.test("4: if same is not 0", CostBoundaryTest::relateAnythingButZero);
        Checks.test("4: both make up all pairs of values", CostBoundaryTest::relateBothWays);
        Checks.test("4: BAD_ARG as for pair: pair too small", CostBoundaryTest::relatePairTooSmall);
        Checks.test("4: BAD_ARG as for pair: pair too large", CostBoundaryTest::relatePairTooLarge);
        Checks.test("4: BAD_ARG as for pair: i = j", CostBoundaryTest::relateOneVariable);
        Checks.test("4: BAD_ARG as for pair: i > j", CostBoundaryTest::relateTurned);
        Checks.test("4: BAD_ARG as for pair: c too small", CostBoundaryTest::relateCostTooSmall);
        Checks.test("4: BAD_ARG as for pair: c between", CostBoundaryTest::relateCostBetween);
        Checks.test("4: BAD_ARG as for pair: c too large", CostBoundaryTest::relateCostTooLarge);
        Checks.test("4: BAD_ARG for several reasons at once", CostBoundaryTest::relateAllWrong);
        Checks.test("4: Otherwise 0", CostBoundaryTest::relateAnswersZero);
    }

    private static void promiseFive() {
        Checks.test("5: All costs become 0: they were", CostBoundaryTest::clearWithNothingToClear);
        Checks.test("5: All costs become 0: none was", CostBoundaryTest::clearEverything);
        Checks.test("5: All costs become 0: each single one", CostBoundaryTest::clearOneCost);
        Checks.test("5: All costs become 0: again", CostBoundaryTest::clearAgain);
        Checks.test("5: of this object alone", CostBoundaryTest::clearOneObject);
    }

    public static void main(String[] args) {
        promiseOne();
        promiseTwo();
        promiseThree();
        promiseFour();
        promiseFive();
        Checks.end();
    }
}
