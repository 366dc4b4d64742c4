import java.util.ArrayList;
import java.util.List;

/**
 * Long runs of calls beside a slow model written straight from the document's terms:
 * it lists the allowed assignments and reads every answer off that list.
 */
public final class ModelTest {
    private static final int RUNS = 120;
    // As many as the document promises an object; the first after them may answer anything.
    private static final int CALLS = 512;

    private static final int[] ODD = {
        Integer.MIN_VALUE, -36, -7, -6, -1, 3, 6, 7, 9, 30, 31, 35, 36, 98, 99, 100, Integer.MAX_VALUE};

    private record Choice(int[] values, int cost) {
    }

    private static final class Model {
        private final int[][] own = new int[6][3];
        private final int[][][][] pair = new int[6][6][3][3];

        private List<Choice> allowed(int from) {
            List<Choice> found = new ArrayList<>();
            extend(from, from, new int[6], 0, found);
            return found;
        }

        private void extend(int from, int at, int[] values, int cost, List<Choice> found) {
            if (at == 6) {
                found.add(new Choice(values.clone(), cost));
                return;
            }
            for (int x = 0; x < 3; x++) {
                boolean barred = own[at][x] == 99;
                int more = own[at][x];
                for (int earlier = from; earlier < at; earlier++) {
                    int c = pair[earlier][at][values[earlier]][x];
                    barred |= c == 99;
                    more += c;
                }
                if (!barred) {
                    values[at] = x;
                    extend(from, at + 1, values, cost + more, found);
                }
            }
        }

        private static int least(List<Choice> choices) {
            return choices.stream().mapToInt(Choice::cost).min().orElse(-4);
        }

        private static boolean badCost(int c) {
            return c != 99 && (c < 0 || c > 30);
        }

        private static boolean badPair(int number) {
            for (int i = 0; i < 6; i++) {
                for (int j = i + 1; j < 6; j++) {
                    if (number == 6 * i + j) {
                        return false;
                    }
                }
            }
            return true;
        }

        private static boolean badVariable(int i) {
            return i < 0 || i > 5;
        }

        int own(int i, int x, int c) {
            if (badVariable(i) || x < 0 || x > 2 || badCost(c)) {
                return -1;
            }
            int before = own[i][x];
            own[i][x] = c;
            return before;
        }

        int pair(int number, int values, int c) {
            if (badPair(number) || values < 0 || values > 8 || badCost(c)) {
                return -1;
            }
            int[] row = pair[number / 6][number % 6][values / 3];
            int before = row[values % 3];
            row[values % 3] = c;
            return before;
        }

        int relate(int number, int same, int c) {
            if (badPair(number) || badCost(c)) {
                return -1;
            }
            for (int x = 0; x < 3; x++) {
                for (int y = 0; y < 3; y++) {
                    if (same == 0 ? x != y : x == y) {
                        pair[number / 6][number % 6][x][y] = c;
                    }
                }
            }
            return 0;
        }

        void clear() {
            for (int number = 0; number < 36; number++) {
                relate(number, 0, 0);
                relate(number, 1, 0);
            }
            for (int i = 0; i < 6; i++) {
                own[i] = new int[3];
            }
        }

        int doll(int i) {
            return badVariable(i) ? -1 : least(allowed(i));
        }

        private List<Choice> cheapestOnes() {
            List<Choice> all = allowed(0);
            int least = least(all);
            return all.stream().filter(choice -> choice.cost() == least).toList();
        }

        int value(int i) {
            if (badVariable(i)) {
                return -1;
            }
            List<Choice> best = cheapestOnes();
            return best.isEmpty() ? -4 : best.get(0).values()[i];
        }

        int with(int i, int x) {
            if (badVariable(i) || x < 0 || x > 2) {
                return -1;
            }
            return least(allowed(0).stream().filter(choice -> choice.values()[i] == x).toList());
        }

        boolean settled(int i) {
            return !badVariable(i)
                && cheapestOnes().stream().map(choice -> choice.values()[i]).distinct().count() == 1;
        }

        int second() {
            List<Choice> all = allowed(0);
            if (!all.isEmpty()) {
                int[] first = cheapestOnes().get(0).values();
                all.removeIf(choice -> java.util.Arrays.equals(choice.values(), first));
            }
            return least(all);
        }

        int zigzag() {
            List<Choice> all = allowed(0);
            for (int i = 0; i < 5; i++) {
                int at = i;
                all.removeIf(choice -> choice.values()[at] == choice.values()[at + 1]);
            }
            return least(all);
        }
    }

    // A fixed row of numbers: the same runs every time.
    private static long state = 20261115L;

    private static int below(int bound) {
        state = state * 6364136223846793005L + 1442695040888963407L;
        return (int) ((state >>> 33) % bound);
    }

    private static int mostlyBelow(int bound) {
        return below(25) == 0 ? ODD[below(ODD.length)] : below(bound);
    }

    private static int somePair() {
        int i = below(5);
        return below(15) == 0 ? mostlyBelow(36) : 6 * i + i + 1 + below(5 - i);
    }

    /** Few different costs in some runs, for ties; much that is barred in others. */
    private static int someCost(int run) {
        if (below(30) == 0) {
            return ODD[below(ODD.length)];
        }
        if (below(12) < run % 4) {
            return 99;
        }
        return run % 3 == 0 ? below(2) : run % 3 == 1 ? below(31) : 29 + below(2);
    }

    private static void change(int run, String at, RussianDoll doll, Model model) {
        int kind = below(100);
        int c = someCost(run);
        if (kind == 0) {
            doll.clear();
            model.clear();
        } else if (kind < 30) {
            int i = mostlyBelow(6);
            int x = mostlyBelow(3);
            Checks.due(at + "own(" + i + ", " + x + ", " + c + ")", doll.own(i, x, c), model.own(i, x, c));
        } else if (kind < 75) {
            int pair = somePair();
            int v = mostlyBelow(9);
            Checks.due(at + "pair(" + pair + ", " + v + ", " + c + ")", doll.pair(pair, v, c), model.pair(pair, v, c));
        } else {
            int pair = somePair();
            int same = mostlyBelow(2);
            Checks.due(at + "relate(" + pair + ", " + same + ", " + c + ")",
                doll.relate(pair, same, c), model.relate(pair, same, c));
        }
    }

    private static void ask(String at, RussianDoll doll, Model model) {
        int i = mostlyBelow(6);
        int x = mostlyBelow(3);
        switch (below(7)) {
            case 0 -> Checks.due(at + "doll(" + i + ")", doll.doll(i), model.doll(i));
            case 1 -> Checks.due(at + "cheapest()", doll.cheapest(), model.doll(0));
            case 2 -> Checks.due(at + "value(" + i + ")", doll.value(i), model.value(i));
            case 3 -> Checks.due(at + "with(" + i + ", " + x + ")", doll.with(i, x), model.with(i, x));
            case 4 -> Checks.due(at + "settled(" + i + ")", doll.settled(i), model.settled(i));
            case 5 -> Checks.due(at + "second()", doll.second(), model.second());
            default -> Checks.due(at + "zigzag()", doll.zigzag(), model.zigzag());
        }
    }

    private static void longRun(int run) {
        RussianDoll doll = new RussianDoll();
        Model model = new Model();
        for (int call = 0; call < CALLS; call++) {
            String at = "run " + run + ", call " + call + ": ";
            if (below(3) > 0) {
                change(run, at, doll, model);
            } else {
                ask(at, doll, model);
            }
        }
    }

    public static void main(String[] args) {
        for (int run = 0; run < RUNS; run++) {
            int number = run;
            Checks.test("run " + number, () -> longRun(number));
        }
        Checks.end();
    }
}
