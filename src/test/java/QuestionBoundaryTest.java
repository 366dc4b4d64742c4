/** The boundary cases of promises 6 to 13, a test for each sentence that names one. */
public final class QuestionBoundaryTest {
    private static final int NONE = Dolls.NONE;
    private static final int BAD_ARG = Dolls.BAD_ARG;
    private static final int BARRED = Dolls.BARRED;

    /** Objects without an allowed assignment, each for another reason. */
    private static RussianDoll[] hopeless() {
        RussianDoll[] dolls = new RussianDoll[12];
        for (int i = 0; i < 6; i++) {
            dolls[i] = new RussianDoll();
            Dolls.bar(dolls[i], i);
        }
        int[] pairs = {1, 5, 15, 29};
        for (int at = 0; at < pairs.length; at++) {
            dolls[6 + at] = new RussianDoll();
            dolls[6 + at].relate(pairs[at], 0, BARRED);
            dolls[6 + at].relate(pairs[at], 1, BARRED);
        }
        dolls[10] = Dolls.with(Dolls.ALL_BARRED);
        // Four variables that must all differ find only three values.
        dolls[11] = new RussianDoll();
        for (int i = 2; i < 6; i++) {
            for (int j = i + 1; j < 6; j++) {
                dolls[11].relate(Dolls.code(i, j), 1, BARRED);
            }
        }
        return dolls;
    }

    private static void dollAtZeroCosts() {
        for (int i = 0; i < 6; i++) {
            Checks.due("doll(" + i + ")", new RussianDoll().doll(i), 0);
        }
    }

    private static void dollAtGreatestCosts() {
        for (int i = 0; i < 6; i++) {
            int variables = 6 - i;
            int due = 30 * variables + 30 * variables * (variables - 1) / 2;
            Checks.due("doll(" + i + ")", Dolls.with(Dolls.DEAREST).doll(i), due);
        }
    }

    private static void dollOfAll() {
        RussianDoll doll = Dolls.with(Dolls.MIXED);
        Checks.due("doll(0) is cheapest()", doll.doll(0), doll.cheapest());
        Dolls.bar(doll, 0);
        Checks.due("doll(0) needs variable 0", doll.doll(0), NONE);
    }

    private static void dollOfTheLast() {
        RussianDoll doll = Dolls.with(Dolls.ALL_BARRED);
        Checks.due("all barred", doll.doll(5), NONE);
        for (int x = 2; x >= 0; x--) {
            doll.own(5, x, 10 + x);
            Checks.due("own cost of " + x + " alone", doll.doll(5), 10 + x);
        }
    }

    /** What is before i, and its pairs with what is not, has no part in doll(i). */
    private static void dollLeavesTheEarlierOut() {
        for (int i = 1; i < 6; i++) {
            RussianDoll doll = new RussianDoll();
            for (int earlier = 0; earlier < i; earlier++) {
                Dolls.bar(doll, earlier);
                for (int j = earlier + 1; j < 6; j++) {
                    doll.relate(Dolls.code(earlier, j), 0, BARRED);
                    doll.relate(Dolls.code(earlier, j), 1, 30);
                }
            }
            Checks.due("doll(" + i + ")", doll.doll(i), 0);
            Checks.due("doll(" + (i - 1) + ")", doll.doll(i - 1), NONE);
        }
    }

    private static void dollTakesTheLaterIn() {
        for (int i = 0; i < 6; i++) {
            for (int later = i; later < 6; later++) {
                RussianDoll doll = new RussianDoll();
                for (int x = 0; x < 3; x++) {
                    doll.own(later, x, 30);
                }
                Checks.due("doll(" + i + ") with " + later + " at 30", doll.doll(i), 30);
                for (int j = later + 1; j < 6; j++) {
                    doll.relate(Dolls.code(later, j), 0, 1);
                    doll.relate(Dolls.code(later, j), 1, 1);
                }
                Checks.due("doll(" + i + ") with the pairs of " + later, doll.doll(i), 30 + 5 - later);
            }
        }
    }

    private static void dollNone() {
        for (int barred = 0; barred < 6; barred++) {
            RussianDoll doll = new RussianDoll();
            Dolls.bar(doll, barred);
            for (int i = 0; i < 6; i++) {
                Checks.due("doll(" + i + ") without " + barred, doll.doll(i), i <= barred ? NONE : 0);
            }
        }
        RussianDoll all = Dolls.with(Dolls.ALL_BARRED);
        for (int i = 0; i < 6; i++) {
            Checks.due("doll(" + i + "), everything barred", all.doll(i), NONE);
        }
    }

    private static void dollNoneByOnePair() {
        for (int pair : Dolls.PAIRS) {
            RussianDoll doll = new RussianDoll();
            doll.relate(pair, 0, BARRED);
            doll.relate(pair, 1, BARRED);
            for (int i = 0; i < 6; i++) {
                Checks.due("doll(" + i + ") without pair " + pair, doll.doll(i), i <= pair / 6 ? NONE : 0);
            }
        }
    }

    private static void dollTooSmall() {
        for (int i : Dolls.SMALL_VARIABLES) {
            Dolls.dueRefused("doll(" + i + ")", doll -> doll.doll(i), BAD_ARG);
        }
    }

    private static void dollTooLarge() {
        for (int i : Dolls.LARGE_VARIABLES) {
            Dolls.dueRefused("doll(" + i + ")", doll -> doll.doll(i), BAD_ARG);
        }
    }

    private static void cheapestAtTheEndsOfCosts() {
        Checks.due("every cost 0", new RussianDoll().cheapest(), 0);
        Checks.due("every cost 30", Dolls.with(Dolls.DEAREST).cheapest(), 630);
        Checks.due("everything barred", Dolls.with(Dolls.ALL_BARRED).cheapest(), NONE);
    }

    private static void cheapestOfOne() {
        Dolls.forEachAssignment(values -> {
            RussianDoll doll = Dolls.only(values);
            Checks.due("one is allowed", doll.cheapest(), 0);
            for (int i = 0; i < 6; i++) {
                doll.own(i, values[i], BARRED);
                Checks.due("and then none, " + i + " barred", doll.cheapest(), NONE);
                doll.own(i, values[i], 0);
            }
        });
    }

    private static void cheapestOfTwo() {
        for (int before = 0; before < 728; before++) {
            int[] a = Dolls.assignment(before);
            int[] b = Dolls.assignment(before + 1);
            // They differ in the last variable at least.
            RussianDoll doll = Dolls.onlyTwo(a, b);
            doll.own(5, a[5], 30);
            doll.own(5, b[5], 29);
            Checks.due("the later is cheaper", doll.cheapest(), 29);
            doll.own(5, a[5], 28);
            Checks.due("the earlier is cheaper", doll.cheapest(), 28);
        }
    }

    private static void cheapestNone() {
        for (RussianDoll doll : hopeless()) {
            Checks.due("cheapest()", doll.cheapest(), NONE);
        }
    }

    private static void valueOfTheOnlyOne() {
        Dolls.forEachAssignment(values -> {
            RussianDoll doll = Dolls.only(values);
            for (int i = 0; i < 6; i++) {
                Checks.due("value(" + i + ")", doll.value(i), values[i]);
            }
        });
    }

    private static void valueWhereAllAreCheapest() {
        for (int i = 0; i < 6; i++) {
            Checks.due("every cost 0: value(" + i + ")", new RussianDoll().value(i), 0);
            Checks.due("every cost 30: value(" + i + ")", Dolls.with(Dolls.DEAREST).value(i), 0);
        }
    }

    private static void valueOfTheLaterIfCheaper() {
        for (int before = 0; before < 728; before++) {
            int[] a = Dolls.assignment(before);
            int[] b = Dolls.assignment(before + 1);
            RussianDoll doll = Dolls.onlyTwo(a, b);
            doll.own(5, a[5], 1);
            for (int i = 0; i < 6; i++) {
                Checks.due("value(" + i + ") of the later", doll.value(i), b[i]);
            }
        }
    }

    private static void valueOfTheFirstIfEqual() {
        for (int before = 0; before < 728; before++) {
            int[] a = Dolls.assignment(before);
            RussianDoll doll = Dolls.onlyTwo(a, Dolls.assignment(before + 1));
            for (int i = 0; i < 6; i++) {
                Checks.due("value(" + i + ") of the first", doll.value(i), a[i]);
            }
        }
    }

    private static void valueNone() {
        for (RussianDoll doll : hopeless()) {
            for (int i = 0; i < 6; i++) {
                Checks.due("value(" + i + ")", doll.value(i), NONE);
            }
        }
    }

    private static void valueTooSmall() {
        for (int i : Dolls.SMALL_VARIABLES) {
            Dolls.dueRefused("value(" + i + ")", doll -> doll.value(i), BAD_ARG);
        }
    }

    private static void valueTooLarge() {
        for (int i : Dolls.LARGE_VARIABLES) {
            Dolls.dueRefused("value(" + i + ")", doll -> doll.value(i), BAD_ARG);
        }
    }

    private static void withAtTheEndsOfCosts() {
        RussianDoll blank = new RussianDoll();
        RussianDoll dearest = Dolls.with(Dolls.DEAREST);
        for (int i = 0; i < 6; i++) {
            for (int x = 0; x < 3; x++) {
                Checks.due("every cost 0: with(" + i + ", " + x + ")", blank.with(i, x), 0);
                Checks.due("every cost 30: with(" + i + ", " + x + ")", dearest.with(i, x), 630);
            }
        }
    }

    private static void withTheOnlyOne() {
        Dolls.forEachAssignment(values -> {
            RussianDoll doll = Dolls.only(values);
            for (int i = 0; i < 6; i++) {
                for (int x = 0; x < 3; x++) {
                    Checks.due("with(" + i + ", " + x + ")", doll.with(i, x), x == values[i] ? 0 : NONE);
                }
            }
        });
    }

    private static void withADearerValue() {
        for (int i = 0; i < 6; i++) {
            RussianDoll doll = new RussianDoll();
            doll.own(i, 0, 30);
            doll.own(i, 2, BARRED);
            Checks.due("with(" + i + ", 0)", doll.with(i, 0), 30);
            Checks.due("with(" + i + ", 1)", doll.with(i, 1), 0);
            Checks.due("with(" + i + ", 2)", doll.with(i, 2), NONE);
        }
    }

    private static void withNone() {
        for (RussianDoll doll : hopeless()) {
            for (int i = 0; i < 6; i++) {
                for (int x = 0; x < 3; x++) {
                    Checks.due("with(" + i + ", " + x + ")", doll.with(i, x), NONE);
                }
            }
        }
    }

    private static void refusedWith(int[] variables, int[] values) {
        for (int i : variables) {
            for (int x : values) {
                Dolls.dueRefused("with(" + i + ", " + x + ")", doll -> doll.with(i, x), BAD_ARG);
            }
        }
    }

    private static void withVariableTooSmall() {
        refusedWith(Dolls.SMALL_VARIABLES, new int[] {0, 2});
    }

    private static void withVariableTooLarge() {
        refusedWith(Dolls.LARGE_VARIABLES, new int[] {0, 2});
    }

    private static void withValueTooSmall() {
        refusedWith(new int[] {0, 5}, Dolls.SMALL_VALUES);
    }

    private static void withValueTooLarge() {
        refusedWith(new int[] {0, 5}, Dolls.LARGE_VALUES);
    }

    private static void withBothWrong() {
        refusedWith(new int[] {-1, 6}, new int[] {-1, 3});
    }

    private static void settledByTheOnlyOne() {
        Dolls.forEachAssignment(values -> {
            RussianDoll doll = Dolls.only(values);
            for (int i = 0; i < 6; i++) {
                Checks.due("settled(" + i + ")", doll.settled(i), true);
            }
        });
    }

    private static void settledByTwo() {
        for (int before = 0; before < 728; before++) {
            int[] a = Dolls.assignment(before);
            int[] b = Dolls.assignment(before + 1);
            RussianDoll doll = Dolls.onlyTwo(a, b);
            for (int i = 0; i < 6; i++) {
                Checks.due("settled(" + i + ") by two", doll.settled(i), a[i] == b[i]);
            }
            doll.own(5, b[5], 1);
            for (int i = 0; i < 6; i++) {
                Checks.due("settled(" + i + "), the later dearer", doll.settled(i), true);
            }
        }
    }

    private static void settledByTheFirstAndTheLast() {
        RussianDoll doll = Dolls.onlyTwo(Dolls.assignment(0), Dolls.assignment(728));
        for (int i = 0; i < 6; i++) {
            Checks.due("settled(" + i + ")", doll.settled(i), false);
        }
    }

    private static void settledWhereAllAreCheapest() {
        for (int i = 0; i < 6; i++) {
            Checks.due("every cost 0: settled(" + i + ")", new RussianDoll().settled(i), false);
            Checks.due("every cost 30: settled(" + i + ")", Dolls.with(Dolls.DEAREST).settled(i), false);
        }
    }

    private static void settledByOneAmongMany() {
        for (int i = 0; i < 6; i++) {
            for (int x = 0; x < 3; x++) {
                RussianDoll doll = new RussianDoll();
                for (int other = 0; other < 3; other++) {
                    doll.own(i, other, other == x ? 0 : 1);
                }
                for (int j = 0; j < 6; j++) {
                    Checks.due("settled(" + j + ") with " + i + " at " + x, doll.settled(j), j == i);
                }
            }
        }
    }

    private static void settledNone() {
        for (RussianDoll doll : hopeless()) {
            for (int i = 0; i < 6; i++) {
                Checks.due("settled(" + i + ")", doll.settled(i), false);
            }
        }
    }

    private static void refusedSettled(int[] variables) {
        RussianDoll sure = Dolls.only(0, 0, 0, 0, 0, 0);
        for (int i : variables) {
            Dolls.dueRefused("settled(" + i + ")", doll -> doll.settled(i) ? 1 : 0, 0);
            Checks.due("settled(" + i + ") where all are settled", sure.settled(i), false);
        }
    }

    private static void settledTooSmall() {
        refusedSettled(Dolls.SMALL_VARIABLES);
    }

    private static void settledTooLarge() {
        refusedSettled(Dolls.LARGE_VARIABLES);
    }

    private static void secondAtTheEndsOfCosts() {
        Checks.due("every cost 0", new RussianDoll().second(), 0);
        Checks.due("every cost 30", Dolls.with(Dolls.DEAREST).second(), 630);
        Checks.due("everything barred", Dolls.with(Dolls.ALL_BARRED).second(), NONE);
    }

    private static void secondOfOne() {
        Dolls.forEachAssignment(values -> {
            RussianDoll doll = Dolls.only(values);
            Checks.due("one is allowed", doll.second(), NONE);
            doll.own(5, values[5], 30);
            Checks.due("one is allowed, for 30", doll.second(), NONE);
        });
    }

    private static void secondOfTwo() {
        for (int before = 0; before < 728; before++) {
            int[] a = Dolls.assignment(before);
            int[] b = Dolls.assignment(before + 1);
            RussianDoll doll = Dolls.onlyTwo(a, b);
            Checks.due("both cost 0", doll.second(), 0);
            doll.own(5, a[5], 30);
            Checks.due("the earlier is second", doll.second(), 30);
            doll.own(5, b[5], 30);
            Checks.due("both cost 30", doll.second(), 30);
            doll.own(5, a[5], 0);
            Checks.due("the later is second", doll.second(), 30);
        }
    }

    private static void secondDiffersInOneValue() {
        for (int i = 0; i < 6; i++) {
            for (int x = 0; x < 3; x++) {
                int[] a = {1, 1, 1, 1, 1, 1};
                int[] b = {1, 1, 1, 1, 1, 1};
                b[i] = x;
                RussianDoll doll = Dolls.onlyTwo(a, b);
                doll.own(i, x, x == 1 ? 0 : 9);
                Checks.due("other value " + x + " of " + i, doll.second(), x == 1 ? NONE : 9);
            }
        }
    }

    private static void secondDiffersInAllValues() {
        RussianDoll doll = Dolls.onlyTwo(Dolls.assignment(0), Dolls.assignment(728));
        doll.own(3, 2, 9);
        Checks.due("the last of all", doll.second(), 9);
        doll.own(2, 0, 10);
        Checks.due("the first of all", doll.second(), 10);
    }

    private static void secondNone() {
        for (RussianDoll doll : hopeless()) {
            Checks.due("second()", doll.second(), NONE);
        }
    }

    private static void zigzagAtTheEndsOfCosts() {
        Checks.due("every cost 0", new RussianDoll().zigzag(), 0);
        Checks.due("every cost 30", Dolls.with(Dolls.DEAREST).zigzag(), 630);
        Checks.due("everything barred", Dolls.with(Dolls.ALL_BARRED).zigzag(), NONE);
    }

    private static void zigzagOfTheOnlyOne() {
        Dolls.forEachAssignment(values -> {
            RussianDoll doll = Dolls.only(values);
            Checks.due("one is allowed", doll.zigzag(), Dolls.zigzags(values) ? 0 : NONE);
            doll.own(0, values[0], 30);
            Checks.due("one is allowed, for 30", doll.zigzag(), Dolls.zigzags(values) ? 30 : NONE);
        });
    }

    private static void zigzagForEachNeighbour() {
        for (int i = 0; i < 5; i++) {
            for (int x = 0; x < 3; x++) {
                int[] values = {0, 1, 0, 1, 0, 1};
                values[i] = x;
                values[i + 1] = x;
                RussianDoll doll = Dolls.only(values);
                Checks.due(i + " and " + (i + 1) + " both at " + x, doll.zigzag(), NONE);
                Checks.due("which is allowed", doll.cheapest(), 0);
            }
        }
    }

    private static void zigzagForNoOthers() {
        for (int i = 0; i < 6; i++) {
            for (int j = i + 2; j < 6; j++) {
                RussianDoll doll = new RussianDoll();
                doll.relate(Dolls.code(i, j), 0, BARRED);
                Checks.due(i + " and " + j + " must be the same", doll.zigzag(), 0);
            }
        }
    }

    private static void zigzagNone() {
        for (RussianDoll doll : hopeless()) {
            Checks.due("zigzag()", doll.zigzag(), NONE);
        }
    }

    private static void dollTestsTheArgumentFirst() {
        for (RussianDoll doll : hopeless()) {
            for (int i : Dolls.NO_VARIABLES) {
                Checks.due("doll(" + i + ")", doll.doll(i), BAD_ARG);
            }
            Checks.due("doll(0)", doll.doll(0), NONE);
        }
    }

    private static void valueTestsTheArgumentFirst() {
        for (RussianDoll doll : hopeless()) {
            for (int i : Dolls.NO_VARIABLES) {
                Checks.due("value(" + i + ")", doll.value(i), BAD_ARG);
            }
            Checks.due("value(0)", doll.value(0), NONE);
            Checks.due("value(5)", doll.value(5), NONE);
        }
    }

    private static void withTestsTheArgumentsFirst() {
        for (RussianDoll doll : hopeless()) {
            for (int i : Dolls.NO_VARIABLES) {
                Checks.due("with(" + i + ", 0)", doll.with(i, 0), BAD_ARG);
                Checks.due("with(" + i + ", 3)", doll.with(i, 3), BAD_ARG);
            }
            for (int x : Dolls.NO_VALUES) {
                Checks.due("with(0, " + x + ")", doll.with(0, x), BAD_ARG);
                Checks.due("with(5, " + x + ")", doll.with(5, x), BAD_ARG);
            }
            Checks.due("with(0, 0)", doll.with(0, 0), NONE);
            Checks.due("with(5, 2)", doll.with(5, 2), NONE);
        }
    }

    private static void promiseSix() {
        Checks.test("6: The least cost: every cost 0", QuestionBoundaryTest::dollAtZeroCosts);
        Checks.test("6: The least cost: every cost 30", QuestionBoundaryTest::dollAtGreatestCosts);
        Checks.test("6: of the variables i to 5: the first i", QuestionBoundaryTest::dollOfAll);
        Checks.test("6: of the variables i to 5: the last i", QuestionBoundaryTest::dollOfTheLast);
        Checks.test("6: of the variables i to 5: none before i", QuestionBoundaryTest::dollLeavesTheEarlierOut);
        Checks.test("6: of the variables i to 5: all from i on", QuestionBoundaryTest::dollTakesTheLaterIn);
        Checks.test("6: NONE if there is none: own costs", QuestionBoundaryTest::dollNone);
        Checks.test("6: NONE if there is none: pair costs", QuestionBoundaryTest::dollNoneByOnePair);
        Checks.test("6: BAD_ARG if i is not 0 to 5: too small", QuestionBoundaryTest::dollTooSmall);
        Checks.test("6: BAD_ARG if i is not 0 to 5: too large", QuestionBoundaryTest::dollTooLarge);
    }

    private static void promiseSeven() {
        Checks.test("7: The least cost: all 0, all 30, all BARRED", QuestionBoundaryTest::cheapestAtTheEndsOfCosts);
        Checks.test("7: The least cost: one is allowed", QuestionBoundaryTest::cheapestOfOne);
        Checks.test("7: The least cost: two are allowed", QuestionBoundaryTest::cheapestOfTwo);
        Checks.test("7: NONE if there is none", QuestionBoundaryTest::cheapestNone);
    }

    private static void promiseEight() {
        Checks.test("8: The value: one is allowed", QuestionBoundaryTest::valueOfTheOnlyOne);
        Checks.test("8: the first of the cheapest: all are", QuestionBoundaryTest::valueWhereAllAreCheapest);
        Checks.test("8: the first of the cheapest: two are", QuestionBoundaryTest::valueOfTheFirstIfEqual);
        Checks.test("8: the first of the cheapest: the later is", QuestionBoundaryTest::valueOfTheLaterIfCheaper);
        Checks.test("8: NONE if there is none", QuestionBoundaryTest::valueNone);
        Checks.test("8: BAD_ARG if i is not 0 to 5: too small", QuestionBoundaryTest::valueTooSmall);
        Checks.test("8: BAD_ARG if i is not 0 to 5: too large", QuestionBoundaryTest::valueTooLarge);
    }

    private static void promiseNine() {
        Checks.test("9: The least cost: all 0, all 30", QuestionBoundaryTest::withAtTheEndsOfCosts);
        Checks.test("9: The least cost: one is allowed", QuestionBoundaryTest::withTheOnlyOne);
        Checks.test("9: variable i has the value x", QuestionBoundaryTest::withADearerValue);
        Checks.test("9: NONE if there is none", QuestionBoundaryTest::withNone);
        Checks.test("9: BAD_ARG if i is not 0 to 5: too small", QuestionBoundaryTest::withVariableTooSmall);
        Checks.test("9: BAD_ARG if i is not 0 to 5: too large", QuestionBoundaryTest::withVariableTooLarge);
        Checks.test("9: BAD_ARG if x is not 0 to 2: too small", QuestionBoundaryTest::withValueTooSmall);
        Checks.test("9: BAD_ARG if x is not 0 to 2: too large", QuestionBoundaryTest::withValueTooLarge);
        Checks.test("9: BAD_ARG for both reasons", QuestionBoundaryTest::withBothWrong);
    }

    private static void promiseTen() {
        Checks.test("10: every cheapest: one is allowed", QuestionBoundaryTest::settledByTheOnlyOne);
        Checks.test("10: every cheapest: two are", QuestionBoundaryTest::settledByTwo);
        Checks.test("10: every cheapest: the first and the last", QuestionBoundaryTest::settledByTheFirstAndTheLast);
        Checks.test("10: every cheapest: all are", QuestionBoundaryTest::settledWhereAllAreCheapest);
        Checks.test("10: gives variable i the same value", QuestionBoundaryTest::settledByOneAmongMany);
        Checks.test("10: false if there is none", QuestionBoundaryTest::settledNone);
        Checks.test("10: false if i is not 0 to 5: too small", QuestionBoundaryTest::settledTooSmall);
        Checks.test("10: false if i is not 0 to 5: too large", QuestionBoundaryTest::settledTooLarge);
    }

    private static void promiseEleven() {
        Checks.test("11: The least cost: all 0, all 30, all BARRED", QuestionBoundaryTest::secondAtTheEndsOfCosts);
        Checks.test("11: differs from the first of the cheapest", QuestionBoundaryTest::secondOfTwo);
        Checks.test("11: in at least one value: in one", QuestionBoundaryTest::secondDiffersInOneValue);
        Checks.test("11: in at least one value: in all", QuestionBoundaryTest::secondDiffersInAllValues);
        Checks.test("11: NONE if there is none: one is allowed", QuestionBoundaryTest::secondOfOne);
        Checks.test("11: NONE if there is none: none is allowed", QuestionBoundaryTest::secondNone);
    }

    private static void promiseTwelve() {
        Checks.test("12: The least cost: all 0, all 30, all BARRED", QuestionBoundaryTest::zigzagAtTheEndsOfCosts);
        Checks.test("12: no two the same: one is allowed", QuestionBoundaryTest::zigzagOfTheOnlyOne);
        Checks.test("12: i and i + 1 (for i from 0 to 4)", QuestionBoundaryTest::zigzagForEachNeighbour);
        Checks.test("12: and no other two", QuestionBoundaryTest::zigzagForNoOthers);
        Checks.test("12: NONE if there is none", QuestionBoundaryTest::zigzagNone);
    }

    private static void promiseThirteen() {
        Checks.test("13: in doll BAD_ARG is tested before NONE", QuestionBoundaryTest::dollTestsTheArgumentFirst);
        Checks.test("13: in value BAD_ARG is tested before NONE", QuestionBoundaryTest::valueTestsTheArgumentFirst);
        Checks.test("13: in with BAD_ARG is tested before NONE", QuestionBoundaryTest::withTestsTheArgumentsFirst);
    }

    public static void main(String[] args) {
        promiseSix();
        promiseSeven();
        promiseEight();
        promiseNine();
        promiseTen();
        promiseEleven();
        promiseTwelve();
        promiseThirteen();
        Checks.end();
    }
}
