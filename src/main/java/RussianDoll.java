public final class RussianDoll {
    public static final int BAD_ARG = -1;
    public static final int NONE = -4;
    public static final int BARRED = 99;

    private static final int VARIABLES = 6;
    private static final int VALUES = 3;
    private static final int VALUE_PAIRS = VALUES * VALUES;
    private static final int GREATEST_COST = 30;
    private static final int OWN_COSTS = VARIABLES * VALUES;
    private static final int PAIRS = VARIABLES * VARIABLES;
    private static final int PAIR_COSTS = PAIRS * VALUE_PAIRS;

    // An assignment of all variables is held as one number with the value of variable i as its
    // ternary digit, variable 0 the highest: so counting up goes through them in the document's order.
    private static final int ASSIGNMENTS = 729;

    // Own costs stand at 3 i + x, pair costs at 9 pair + values; the places of numbers
    // that are no pair (i >= j) stay unused, which spares a second numbering of the pairs.
    private final int[] ownCosts = new int[OWN_COSTS];
    private final int[] pairCosts = new int[PAIR_COSTS];

    public RussianDoll() {
    }

    public int own(int i, int x, int c) {
        if (!isVariable(i) || !isValue(x) || !isCost(c)) {
            return BAD_ARG;
        }
        int place = VALUES * i + x;
        int before = ownCosts[place];
        ownCosts[place] = c;
        return before;
    }

    public int pair(int pair, int values, int c) {
        if (!isPair(pair) || values < 0 || values >= VALUE_PAIRS || !isCost(c)) {
            return BAD_ARG;
        }
        int place = VALUE_PAIRS * pair + values;
        int before = pairCosts[place];
        pairCosts[place] = c;
        return before;
    }

    public int relate(int pair, int same, int c) {
        if (!isPair(pair) || !isCost(c)) {
            return BAD_ARG;
        }
        boolean wantSame = same != 0;
        for (int values = 0; values < VALUE_PAIRS; values++) {
            boolean isSame = values / VALUES == values % VALUES;
            if (isSame == wantSame) {
                pairCosts[VALUE_PAIRS * pair + values] = c;
            }
        }
        return 0;
    }

    public void clear() {
        for (int place = 0; place < OWN_COSTS; place++) {
            ownCosts[place] = 0;
        }
        for (int place = 0; place < PAIR_COSTS; place++) {
            pairCosts[place] = 0;
        }
    }

    public int doll(int i) {
        if (!isVariable(i)) {
            return BAD_ARG;
        }
        return leastFrom(i);
    }

    public int cheapest() {
        return leastFrom(0);
    }

    public int value(int i) {
        if (!isVariable(i)) {
            return BAD_ARG;
        }
        int first = firstCheapest();
        if (first == NONE) {
            return NONE;
        }
        return valueIn(first, i);
    }

    public int with(int i, int x) {
        if (!isVariable(i) || !isValue(x)) {
            return BAD_ARG;
        }
        int least = NONE;
        for (int assignment = 0; assignment < ASSIGNMENTS; assignment++) {
            if (valueIn(assignment, i) == x) {
                int cost = costFrom(0, assignment);
                least = lesser(least, cost);
            }
        }
        return least;
    }

    public boolean settled(int i) {
        if (!isVariable(i)) {
            return false;
        }
        int first = firstCheapest();
        if (first == NONE) {
            return false;
        }
        int least = costFrom(0, first);
        int x = valueIn(first, i);
        // None before the first of the cheapest can be as cheap.
        for (int assignment = first + 1; assignment < ASSIGNMENTS; assignment++) {
            if (valueIn(assignment, i) != x && costFrom(0, assignment) == least) {
                return false;
            }
        }
        return true;
    }

    public int second() {
        int first = firstCheapest();
        int least = NONE;
        for (int assignment = 0; assignment < ASSIGNMENTS; assignment++) {
            if (assignment != first) {
                int cost = costFrom(0, assignment);
                least = lesser(least, cost);
            }
        }
        return least;
    }

    public int zigzag() {
        int least = NONE;
        for (int assignment = 0; assignment < ASSIGNMENTS; assignment++) {
            if (neighboursDiffer(assignment)) {
                int cost = costFrom(0, assignment);
                least = lesser(least, cost);
            }
        }
        return least;
    }

    private static boolean isVariable(int i) {
        return i >= 0 && i < VARIABLES;
    }

    private static boolean isValue(int x) {
        return x >= 0 && x < VALUES;
    }

    private static boolean isCost(int c) {
        return c == BARRED || (c >= 0 && c <= GREATEST_COST);
    }

    private static boolean isPair(int pair) {
        return pair >= 0 && pair < PAIRS && pair / VARIABLES < pair % VARIABLES;
    }

    private static int valueIn(int assignment, int i) {
        int rest = assignment;
        for (int later = VARIABLES - 1; later > i; later--) {
            rest /= VALUES;
        }
        return rest % VALUES;
    }

    private static boolean neighboursDiffer(int assignment) {
        for (int i = 0; i < VARIABLES - 1; i++) {
            if (valueIn(assignment, i) == valueIn(assignment, i + 1)) {
                return false;
            }
        }
        return true;
    }

    // NONE is below every cost, so it can't be left to a plain comparison.
    private static int lesser(int a, int b) {
        if (a == NONE) {
            return b;
        }
        if (b == NONE) {
            return a;
        }
        return a < b ? a : b;
    }

    private int costFrom(int first, int assignment) {
        int sum = 0;
        for (int i = first; i < VARIABLES; i++) {
            int x = valueIn(assignment, i);
            int ownCost = ownCosts[VALUES * i + x];
            if (ownCost == BARRED) {
                return NONE;
            }
            sum += ownCost;
            for (int j = i + 1; j < VARIABLES; j++) {
                int values = VALUES * x + valueIn(assignment, j);
                int pairCost = pairCosts[VALUE_PAIRS * (VARIABLES * i + j) + values];
                if (pairCost == BARRED) {
                    return NONE;
                }
                sum += pairCost;
            }
        }
        return sum;
    }

    private int leastFrom(int first) {
        int least = NONE;
        // Assignments that differ only before first cost the same here, so meeting
        // each of the shorter ones several times does no harm.
        for (int assignment = 0; assignment < ASSIGNMENTS; assignment++) {
            int cost = costFrom(first, assignment);
            least = lesser(least, cost);
        }
        return least;
    }

    private int firstCheapest() {
        int least = leastFrom(0);
        if (least == NONE) {
            return NONE;
        }
        for (int assignment = 0; assignment < ASSIGNMENTS; assignment++) {
            if (costFrom(0, assignment) == least) {
                return assignment;
            }
        }
        return NONE;
    }
}
