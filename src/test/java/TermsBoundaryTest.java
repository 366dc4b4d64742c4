import java.util.Arrays;

/** The boundary cases of the section 'Terms', a test for each sentence that names one. */
public final class TermsBoundaryTest {
    private static final int[] EDGES = {
        Integer.MIN_VALUE, Integer.MIN_VALUE + 1, -36, -6, -1, 0, 1, 2, 3, 5, 6, 8, 9, 29, 30, 31, 35, 36,
        98, 99, 100, 477218589, 1431655766, Integer.MAX_VALUE - 1, Integer.MAX_VALUE};

    private static boolean among(int number, int least, int greatest) {
        return number >= least && number <= greatest;
    }

    private static boolean isCost(int c) {
        return among(c, 0, 30) || c == 99;
    }

    private static boolean isPair(int pair) {
        return Arrays.stream(Dolls.PAIRS).anyMatch(known -> known == pair);
    }

    private static void sixVariables() {
        RussianDoll doll = Dolls.only(2, 2, 2, 2, 2, 2);
        for (int i = -3; i < 10; i++) {
            boolean is = among(i, 0, 5);
            Checks.due("own(" + i + ", 2, 0)", doll.own(i, 2, 0), is ? 0 : Dolls.BAD_ARG);
            Checks.due("doll(" + i + ")", doll.doll(i), is ? 0 : Dolls.BAD_ARG);
            Checks.due("value(" + i + ")", doll.value(i), is ? 2 : Dolls.BAD_ARG);
            Checks.due("with(" + i + ", 2)", doll.with(i, 2), is ? 0 : Dolls.BAD_ARG);
            Checks.due("settled(" + i + ")", doll.settled(i), is);
        }
    }

    private static void threeValues() {
        for (int i = 0; i < 6; i++) {
            RussianDoll doll = new RussianDoll();
            for (int x = -3; x < 6; x++) {
                boolean is = among(x, 0, 2);
                Checks.due("own(" + i + ", " + x + ", 1)", doll.own(i, x, 1), is ? 0 : Dolls.BAD_ARG);
                Checks.due("with(" + i + ", " + x + ")", doll.with(i, x), is ? 1 : Dolls.BAD_ARG);
            }
            for (int x = 0; x < 3; x++) {
                doll.own(i, x, 0);
                Checks.due("value(" + i + ") where " + x + " is cheapest", doll.value(i), x);
                doll.own(i, x, 1);
            }
        }
    }

    private static void rangeOfAnOwnCost() {
        RussianDoll doll = new RussianDoll();
        int before = 0;
        for (int c = -100; c < 200; c++) {
            Checks.due("own(5, 2, " + c + ")", doll.own(5, 2, c), isCost(c) ? before : Dolls.BAD_ARG);
            before = isCost(c) ? c : before;
        }
        for (int c : Dolls.NO_COSTS) {
            Checks.due("own(5, 2, " + c + ")", doll.own(5, 2, c), Dolls.BAD_ARG);
        }
    }

    private static void rangeOfAPairCost() {
        RussianDoll doll = new RussianDoll();
        int before = 0;
        for (int c = -100; c < 200; c++) {
            Checks.due("pair(29, 8, " + c + ")", doll.pair(29, 8, c), isCost(c) ? before : Dolls.BAD_ARG);
            before = isCost(c) ? c : before;
        }
        for (int c : Dolls.NO_COSTS) {
            Checks.due("pair(29, 8, " + c + ")", doll.pair(29, 8, c), Dolls.BAD_ARG);
        }
    }

    private static void pairsHaveTheLesserFirst() {
        for (int i = 0; i < 6; i++) {
            for (int j = 0; j < 6; j++) {
                RussianDoll doll = new RussianDoll();
                int pair = Dolls.code(i, j);
                Checks.due("pair(" + pair + ", 0, 1)", doll.pair(pair, 0, 1), i < j ? 0 : Dolls.BAD_ARG);
            }
        }
    }

    private static void zeroAtFirst() {
        Dolls.dueCosts("new", new RussianDoll(), Dolls.BLANK);
    }

    /** The places of the 6 own costs and the 15 pair costs that an assignment is charged. */
    private static int[] charged(int[] values) {
        int[] places = new int[21];
        int at = 0;
        for (int i = 0; i < 6; i++) {
            places[at++] = Dolls.ownPlace(i, values[i]);
            for (int j = i + 1; j < 6; j++) {
                places[at++] = Dolls.pairPlace(Dolls.code(i, j), 3 * values[i] + values[j]);
            }
        }
        return places;
    }

    private static final int[][] SAMPLES = {
        {0, 0, 0, 0, 0, 0}, {2, 2, 2, 2, 2, 2}, {0, 1, 2, 0, 1, 2}, {2, 1, 0, 1, 1, 2}, {1, 0, 0, 2, 2, 1}};

    private static void costIsTheWholeSum() {
        for (int[] values : SAMPLES) {
            RussianDoll doll = Dolls.only(values);
            int sum = 0;
            for (int place : charged(values)) {
                Dolls.put(doll, place, 30);
                sum += 30;
                Checks.due("with place " + place + " at 30", doll.cheapest(), sum);
            }
            Checks.due("everything at 30", doll.cheapest(), 630);
        }
    }

    private static void eachCostCountsAlone() {
        for (int[] values : SAMPLES) {
            RussianDoll doll = Dolls.only(values);
            for (int place : charged(values)) {
                Dolls.put(doll, place, 1);
                Checks.due("place " + place + " alone", doll.cheapest(), 1);
                Dolls.put(doll, place, 0);
            }
        }
    }

    private static void otherValuesCostNothing() {
        for (int[] values : SAMPLES) {
            RussianDoll doll = Dolls.with(Dolls.ALL_BARRED);
            for (int place : charged(values)) {
                Checks.due("one still barred", doll.cheapest(), Dolls.NONE);
                Dolls.put(doll, place, 0);
            }
            Checks.due("all others barred", doll.cheapest(), 0);
        }
    }

    private static void oneBarredIsEnough() {
        for (int[] values : SAMPLES) {
            RussianDoll doll = Dolls.only(values);
            for (int place : charged(values)) {
                Dolls.put(doll, place, Dolls.BARRED);
                Checks.due("place " + place + " barred", doll.cheapest(), Dolls.NONE);
                Dolls.put(doll, place, 0);
                Checks.due("no longer", doll.cheapest(), 0);
            }
        }
    }

    private static void severalBarred() {
        RussianDoll doll = Dolls.only(1, 1, 1, 1, 1, 1);
        for (int place : charged(new int[] {1, 1, 1, 1, 1, 1})) {
            Dolls.put(doll, place, Dolls.BARRED);
            Checks.due("barred up to place " + place, doll.cheapest(), Dolls.NONE);
        }
    }

    /** Every other assignment costs 180 or more, so counting the 99 would make the barred one the cheapest. */
    private static void barredIsNoCost() {
        for (int[] values : SAMPLES) {
            int[] places = charged(values);
            for (int barred : places) {
                int[] costs = Dolls.DEAREST.clone();
                for (int place : places) {
                    costs[place] = 0;
                }
                costs[barred] = 30;
                Checks.due("place " + barred + " at 30", Dolls.with(costs).cheapest(), 30);
                costs[barred] = Dolls.BARRED;
                Checks.due("place " + barred + " barred", Dolls.with(costs).cheapest(), 180);
            }
        }
    }

    private static void sumOfNinetyNineIsACost() {
        RussianDoll doll = Dolls.only(0, 0, 0, 0, 0, 0);
        doll.own(0, 0, 30);
        doll.own(5, 0, 30);
        doll.pair(1, 0, 30);
        for (int rest = 8; rest <= 10; rest++) {
            doll.pair(29, 0, rest);
            Checks.due("sum " + (90 + rest), doll.cheapest(), 90 + rest);
            Checks.due("value(5) at sum " + (90 + rest), doll.value(5), 0);
            Checks.due("settled(5) at sum " + (90 + rest), doll.settled(5), true);
        }
    }

    private static void dueOrder(int[] earlier, int[] later) {
        String name = Arrays.toString(earlier) + " before " + Arrays.toString(later);
        RussianDoll doll = Dolls.onlyTwo(earlier, later);
        for (int i = 0; i < 6; i++) {
            Checks.due(name + ": value(" + i + ")", doll.value(i), earlier[i]);
        }
    }

    private static void eachBeforeTheNext() {
        for (int before = 0; before < 728; before++) {
            dueOrder(Dolls.assignment(before), Dolls.assignment(before + 1));
        }
    }

    private static void firstAndLastOfTheOrder() {
        for (int before = 1; before < 728; before++) {
            dueOrder(Dolls.assignment(0), Dolls.assignment(before));
            dueOrder(Dolls.assignment(before), Dolls.assignment(728));
        }
    }

    /** One variable has less and all later ones more: the earlier variable is what counts. */
    private static void earlierVariableOutweighs() {
        for (int i = 0; i < 5; i++) {
            for (int x = 0; x < 2; x++) {
                int[] earlier = {1, 1, 1, 1, 1, 1};
                int[] later = {1, 1, 1, 1, 1, 1};
                earlier[i] = x;
                later[i] = x + 1;
                for (int j = i + 1; j < 6; j++) {
                    earlier[j] = 2;
                    later[j] = 0;
                }
                dueOrder(earlier, later);
            }
        }
    }

    private static void anyThreeNumbers(int[] costs, int a, int b) {
        RussianDoll doll = Dolls.with(costs);
        for (int c : EDGES) {
            boolean good = among(a, 0, 5) && among(b, 0, 2) && isCost(c);
            int answer = doll.own(a, b, c);
            Checks.due("own(" + a + ", " + b + ", " + c + ") is refused", answer == Dolls.BAD_ARG, !good);
            good = isPair(a) && among(b, 0, 8) && isCost(c);
            answer = doll.pair(a, b, c);
            Checks.due("pair(" + a + ", " + b + ", " + c + ") is refused", answer == Dolls.BAD_ARG, !good);
            good = isPair(a) && isCost(c);
            answer = doll.relate(a, b, c);
            Checks.due("relate(" + a + ", " + b + ", " + c + ")", answer, good ? 0 : Dolls.BAD_ARG);
        }
    }

    private static void changesNeverThrow() {
        for (int[] costs : new int[][] {Dolls.BLANK, Dolls.DEAREST, Dolls.ALL_BARRED, Dolls.MIXED}) {
            for (int a : EDGES) {
                for (int b : EDGES) {
                    anyThreeNumbers(costs, a, b);
                }
            }
        }
    }

    private static void questionsNeverThrow() {
        for (int[] costs : new int[][] {Dolls.BLANK, Dolls.DEAREST, Dolls.ALL_BARRED, Dolls.MIXED}) {
            for (int a : EDGES) {
                RussianDoll doll = Dolls.with(costs);
                boolean good = among(a, 0, 5);
                Checks.due("doll(" + a + ") is refused", doll.doll(a) == Dolls.BAD_ARG, !good);
                Checks.due("value(" + a + ") is refused", doll.value(a) == Dolls.BAD_ARG, !good);
                Checks.due("settled(" + a + ") may be true", doll.settled(a) && !good, false);
                for (int b : EDGES) {
                    boolean refused = doll.with(a, b) == Dolls.BAD_ARG;
                    Checks.due("with(" + a + ", " + b + ") is refused", refused, !good || !among(b, 0, 2));
                }
                doll.clear();
                Checks.due("after all: cheapest()", doll.cheapest(), 0);
                Checks.due("after all: second()", doll.second(), 0);
                Checks.due("after all: zigzag()", doll.zigzag(), 0);
            }
        }
    }

    private static void refusedRowChangesNothing() {
        RussianDoll doll = Dolls.with(Dolls.MIXED);
        int[] before = Dolls.answers(doll);
        for (int i : new int[] {-1, 6, Integer.MIN_VALUE, Integer.MAX_VALUE}) {
            Checks.due("own(" + i + ", 0, 7)", doll.own(i, 0, Dolls.UNUSED_COST), Dolls.BAD_ARG);
            Checks.due("pair(36, " + i + ", 7)", doll.pair(36, i, Dolls.UNUSED_COST), Dolls.BAD_ARG);
            Checks.due("relate(36, " + i + ", 7)", doll.relate(36, i, Dolls.UNUSED_COST), Dolls.BAD_ARG);
            Checks.due("doll(" + i + ")", doll.doll(i), Dolls.BAD_ARG);
            Checks.due("value(" + i + ")", doll.value(i), Dolls.BAD_ARG);
            Checks.due("with(" + i + ", 0)", doll.with(i, 0), Dolls.BAD_ARG);
            Checks.due("settled(" + i + ")", doll.settled(i), false);
        }
        Checks.due("same answers", Arrays.equals(Dolls.answers(doll), before), true);
        Dolls.dueCosts("after a row of refused calls", doll, Dolls.MIXED);
    }

    private static void questionsChangeNothing() {
        for (int[] costs : new int[][] {Dolls.BLANK, Dolls.DEAREST, Dolls.ALL_BARRED, Dolls.MIXED}) {
            RussianDoll doll = Dolls.with(costs);
            int[] before = Dolls.answers(doll);
            Checks.due("same answers", Arrays.equals(Dolls.answers(doll), before), true);
            Dolls.dueCosts("after questions", doll, costs);
        }
    }

    private static void constants() {
        RussianDoll doll = new RussianDoll();
        Checks.due("BAD_ARG is answered", doll.doll(6), RussianDoll.BAD_ARG);
        Checks.due("BARRED is taken", doll.own(0, 0, RussianDoll.BARRED), 0);
        Checks.due("BARRED is answered", doll.own(0, 0, 99), RussianDoll.BARRED);
        Dolls.bar(doll, 0);
        Checks.due("NONE is answered", doll.cheapest(), RussianDoll.NONE);
        Checks.due("BAD_ARG", RussianDoll.BAD_ARG, -1);
        Checks.due("NONE", RussianDoll.NONE, -4);
        Checks.due("BARRED", RussianDoll.BARRED, 99);
    }

    private static void lastOfTheCalls() {
        RussianDoll doll = new RussianDoll();
        for (int call = 1; call <= 510; call++) {
            doll.own(5, 2, call % 31);
        }
        Checks.due("call 511", doll.own(5, 2, 30), 510 % 31);
        Checks.due("call 512", doll.with(5, 2), 30);
    }

    public static void main(String[] args) {
        Checks.test("There are 6 VARIABLES, 0 to 5", TermsBoundaryTest::sixVariables);
        Checks.test("each has a value 0, 1 or 2", TermsBoundaryTest::threeValues);
        Checks.test("an OWN COST, 0 to 30 or BARRED", TermsBoundaryTest::rangeOfAnOwnCost);
        Checks.test("a PAIR COST, 0 to 30 or BARRED", TermsBoundaryTest::rangeOfAPairCost);
        Checks.test("value y of variable j, i < j", TermsBoundaryTest::pairsHaveTheLesserFirst);
        Checks.test("all own and pair costs are 0 at first", TermsBoundaryTest::zeroAtFirst);
        Checks.test("the sum of the own costs and of all pair costs", TermsBoundaryTest::costIsTheWholeSum);
        Checks.test("the sum: each cost counts alone", TermsBoundaryTest::eachCostCountsAlone);
        Checks.test("the sum: of its values and its pairs, no others", TermsBoundaryTest::otherValuesCostNothing);
        Checks.test("the sum may be 99", TermsBoundaryTest::sumOfNinetyNineIsACost);
        Checks.test("if one of these is BARRED: exactly one", TermsBoundaryTest::oneBarredIsEnough);
        Checks.test("if one of these is BARRED: several", TermsBoundaryTest::severalBarred);
        Checks.test("the assignment has no cost", TermsBoundaryTest::barredIsNoCost);
        Checks.test("ordered by the first variable", TermsBoundaryTest::earlierVariableOutweighs);
        Checks.test("then by the second, and so on", TermsBoundaryTest::eachBeforeTheNext);
        Checks.test("ordered: the first and the last", TermsBoundaryTest::firstAndLastOfTheOrder);
        Checks.test("No call ever throws: own, pair, relate", TermsBoundaryTest::changesNeverThrow);
        Checks.test("No call ever throws: the others", TermsBoundaryTest::questionsNeverThrow);
        Checks.test("A refused call changes nothing: a row of them", TermsBoundaryTest::refusedRowChangesNothing);
        Checks.test("questions change nothing", TermsBoundaryTest::questionsChangeNothing);
        Checks.test("The constants", TermsBoundaryTest::constants);
        Checks.test("at most 512 calls", TermsBoundaryTest::lastOfTheCalls);
        Checks.end();
    }
}
