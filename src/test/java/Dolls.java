import java.util.Arrays;
import java.util.function.Consumer;
import java.util.function.ToIntFunction;
import java.util.stream.IntStream;

/** What the boundary tests share: arguments out of range, and objects whose every cost is known. */
final class Dolls {
    static final int BAD_ARG = -1;
    static final int NONE = -4;
    static final int BARRED = 99;

    // Each list has the nearest ones on both sides, the ends of int, and numbers that would pass for
    // allowed ones if a byte, a short or the product in an index wrapped around (3 * 1431655766 is 2,
    // 9 * 477218589 is 5).
    static final int[] SMALL_VARIABLES = {-1, -2, -6, -256, -65536, -1431655765, Integer.MIN_VALUE + 1, Integer.MIN_VALUE};
    static final int[] LARGE_VARIABLES = {6, 7, 32, 256, 257, 65536, 1431655766, Integer.MAX_VALUE - 1, Integer.MAX_VALUE};
    static final int[] SMALL_VALUES = {-1, -2, -3, -256, -65536, Integer.MIN_VALUE + 1, Integer.MIN_VALUE};
    static final int[] LARGE_VALUES = {3, 4, 6, 32, 256, 257, 65536, Integer.MAX_VALUE - 1, Integer.MAX_VALUE};
    static final int[] SMALL_COSTS = {-1, -2, -4, -30, -99, -157, -256, -65536, Integer.MIN_VALUE + 1, Integer.MIN_VALUE};
    static final int[] COSTS_BELOW_BARRED = IntStream.range(31, 99).toArray();
    static final int[] COSTS_ABOVE_BARRED = {100, 101, 256, 355, 65536, 65635, Integer.MAX_VALUE - 1, Integer.MAX_VALUE};
    static final int[] SMALL_PAIRS = {-1, -2, -5, -6, -35, -36, -255, -65535, -477218588, Integer.MIN_VALUE + 1, Integer.MIN_VALUE};
    static final int[] LARGE_PAIRS = {36, 37, 38, 41, 43, 71, 257, 65537, 477218589, Integer.MAX_VALUE - 1, Integer.MAX_VALUE};
    static final int[] SMALL_VALUE_PAIRS = {-1, -2, -9, -256, -65536, Integer.MIN_VALUE + 1, Integer.MIN_VALUE};
    static final int[] LARGE_VALUE_PAIRS = {9, 10, 18, 32, 256, 257, 65536, Integer.MAX_VALUE - 1, Integer.MAX_VALUE};

    static final int[] NO_VARIABLES = joined(SMALL_VARIABLES, LARGE_VARIABLES);
    static final int[] NO_VALUES = joined(SMALL_VALUES, LARGE_VALUES);
    static final int[] NO_COSTS = joined(SMALL_COSTS, COSTS_BELOW_BARRED, COSTS_ABOVE_BARRED);
    static final int[] NO_VALUE_PAIRS = joined(SMALL_VALUE_PAIRS, LARGE_VALUE_PAIRS);
    static final int[] PAIRS = {1, 2, 3, 4, 5, 8, 9, 10, 11, 15, 16, 17, 22, 23, 29};
    static final int[] EQUAL_PAIRS = {0, 7, 14, 21, 28, 35};
    static final int[] TURNED_PAIRS = {6, 12, 13, 18, 19, 20, 24, 25, 26, 27, 30, 31, 32, 33, 34};
    static final int[] NO_PAIRS = joined(SMALL_PAIRS, LARGE_PAIRS, EQUAL_PAIRS, TURNED_PAIRS);

    // No state below holds this cost, so writing it anywhere shows.
    static final int UNUSED_COST = 7;

    private static final int OWN_COSTS = 18;
    private static final int COSTS = OWN_COSTS + 15 * 9;

    /** Every cost the same. */
    static final int[] BLANK = filled(0);
    static final int[] DEAREST = filled(30);
    static final int[] ALL_BARRED = filled(BARRED);
    /** Many different costs, and some that are barred. */
    static final int[] MIXED = mixed();

    private Dolls() {
    }

    private static int[] joined(int[]... lists) {
        return Arrays.stream(lists).flatMapToInt(Arrays::stream).toArray();
    }

    private static int[] filled(int c) {
        int[] costs = new int[COSTS];
        Arrays.fill(costs, c);
        return costs;
    }

    private static int[] mixed() {
        int[] costs = new int[COSTS];
        for (int place = 0; place < COSTS; place++) {
            costs[place] = place % 17 == 10 ? BARRED : 8 + place * place * 5 % 23;
        }
        return costs;
    }

    /** Sets a cost by its place: the own costs come first, then the pairs in their order. */
    static int put(RussianDoll doll, int place, int c) {
        if (place < OWN_COSTS) {
            return doll.own(place / 3, place % 3, c);
        }
        int rest = place - OWN_COSTS;
        return doll.pair(PAIRS[rest / 9], rest % 9, c);
    }

    static int ownPlace(int i, int x) {
        return 3 * i + x;
    }

    static int pairPlace(int pair, int values) {
        return OWN_COSTS + 9 * Arrays.binarySearch(PAIRS, pair) + values;
    }

    /** An object with these costs, made by 153 calls. */
    static RussianDoll with(int[] costs) {
        RussianDoll doll = new RussianDoll();
        for (int place = 0; place < COSTS; place++) {
            put(doll, place, costs[place]);
        }
        return doll;
    }

    /** Looks at every cost by setting it to what it should be: 153 calls. */
    static void dueCosts(String name, RussianDoll doll, int[] costs) {
        for (int place = 0; place < COSTS; place++) {
            int before = put(doll, place, costs[place]);
            Checks.due(name + ": cost at place " + place, before, costs[place]);
        }
    }

    /** What every question answers: 39 calls. */
    static int[] answers(RussianDoll doll) {
        int[] all = new int[39];
        int at = 0;
        for (int i = 0; i < 6; i++) {
            all[at++] = doll.doll(i);
            all[at++] = doll.value(i);
            all[at++] = doll.settled(i) ? 1 : 0;
            for (int x = 0; x < 3; x++) {
                all[at++] = doll.with(i, x);
            }
        }
        all[at++] = doll.cheapest();
        all[at++] = doll.second();
        all[at++] = doll.zigzag();
        return all;
    }

    private static final int[] MIXED_ANSWERS = answers(with(MIXED));

    /** The call answers the code, and neither a cost nor an answer has changed behind it. */
    static void dueRefused(String name, ToIntFunction<RussianDoll> call, int code) {
        for (int[] costs : new int[][] {BLANK, DEAREST, ALL_BARRED}) {
            RussianDoll doll = with(costs);
            Checks.due(name, call.applyAsInt(doll), code);
            dueCosts("after " + name, doll, costs);
        }
        RussianDoll doll = with(MIXED);
        Checks.due(name, call.applyAsInt(doll), code);
        Checks.due("after " + name + ": same answers", Arrays.equals(answers(doll), MIXED_ANSWERS), true);
        dueCosts("after " + name, doll, MIXED);
    }

    static int code(int i, int j) {
        return 6 * i + j;
    }

    static void bar(RussianDoll doll, int i) {
        for (int x = 0; x < 3; x++) {
            doll.own(i, x, BARRED);
        }
    }

    /** An object that allows this one assignment alone. */
    static RussianDoll only(int... values) {
        return onlyTwo(values, values);
    }

    /** An object that allows these two assignments alone, both for nothing: at most 72 calls. */
    static RussianDoll onlyTwo(int[] a, int[] b) {
        RussianDoll doll = new RussianDoll();
        for (int i = 0; i < 6; i++) {
            for (int x = 0; x < 3; x++) {
                if (x != a[i] && x != b[i]) {
                    doll.own(i, x, BARRED);
                }
            }
            for (int j = i + 1; j < 6; j++) {
                // Where both differ, the values of one may not meet those of the other.
                if (a[i] != b[i] && a[j] != b[j]) {
                    doll.pair(code(i, j), 3 * a[i] + b[j], BARRED);
                    doll.pair(code(i, j), 3 * b[i] + a[j], BARRED);
                }
            }
        }
        return doll;
    }

    /** The assignment that has so many before it in the document's order. */
    static int[] assignment(int before) {
        int[] values = new int[6];
        int rest = before;
        for (int i = 5; i >= 0; i--) {
            values[i] = rest % 3;
            rest /= 3;
        }
        return values;
    }

    static void forEachAssignment(Consumer<int[]> body) {
        for (int before = 0; before < 729; before++) {
            body.accept(assignment(before));
        }
    }

    static boolean zigzags(int[] values) {
        for (int i = 0; i < 5; i++) {
            if (values[i] == values[i + 1]) {
                return false;
            }
        }
        return true;
    }
}
