import java.util.ArrayList;
import java.util.List;

/**
 * Long runs of calls on the program and on a plain model of the document, answer by answer. The
 * numbers come from a fixed formula, so that each run of this test makes the same calls.
 */
public final class WeightedNetworkAgainstModel {
    private static final int RUNS = 150;
    private static final int CALLS = 512;

    private long state;
    private final int[] lastCall = new int[3];

    public static void main(String[] args) {
        int wrong = 0;
        for (int run = 0; run < RUNS; run++) {
            if (!new WeightedNetworkAgainstModel().sameAnswers(run)) {
                wrong++;
            }
        }
        System.out.println(wrong == 0 ? "all runs are as the model's" : wrong + " runs are not as the model's");
        if (wrong != 0) {
            System.exit(1);
        }
    }

    private int next(int bound) {
        state = state * 6364136223846793005L + 1442695040888963407L;
        return (int) ((state >>> 33) % bound);
    }

    /** Mostly from 0 to below the limit; now and then beside it or far off. */
    private int about(int limit) {
        int kind = next(24);
        if (kind == 0) {
            return -1 - next(3);
        }
        if (kind == 1) {
            return limit + next(3);
        }
        if (kind == 2 && next(4) == 0) {
            return next(2) == 0 ? Integer.MIN_VALUE : Integer.MAX_VALUE;
        }
        return next(limit);
    }

    private int someCost(int forbidsOneIn) {
        return next(forbidsOneIn) == 0 ? 20 : about(21);
    }

    private boolean sameAnswers(int run) {
        state = run * 7919L + 17;
        // Few forbidding costs in some runs and many in others, so that all of NONE, one and many come up.
        int forbidsOneIn = 2 + run % 12;
        WeightedNetwork program = new WeightedNetwork();
        Model model = new Model();
        for (int call = 0; call < CALLS; call++) {
            int which = next(16);
            long[] answers = ask(which, forbidsOneIn, program, model);
            if (answers[0] != answers[1]) {
                System.out.println("run " + run + ", call " + call + ", kind " + which + " with " + lastCall[0]
                        + ", " + lastCall[1] + ", " + lastCall[2] + " answered " + answers[0] + ", due is " + answers[1]);
                return false;
            }
        }
        return true;
    }

    private int keep(int at, int argument) {
        lastCall[at] = argument;
        return argument;
    }

    private long[] ask(int which, int forbidsOneIn, WeightedNetwork program, Model model) {
        int a;
        int b;
        int c;
        switch (which) {
            case 0: case 1: case 2:
                a = keep(0, about(6));
                b = keep(1, about(3));
                c = keep(2, someCost(forbidsOneIn));
                return new long[] {program.cost(a, b, c), model.cost(a, b, c)};
            case 3: case 4:
                a = keep(0, about(6));
                b = keep(1, about(6));
                return new long[] {program.table(a, b), model.table(a, b)};
            case 5: case 6: case 7:
                a = keep(0, about(model.tables.size() + 1));
                b = keep(1, about(9));
                c = keep(2, someCost(forbidsOneIn));
                return new long[] {program.pair(a, b, c), model.pair(a, b, c)};
            case 8:
                return new long[] {program.drop(), model.drop()};
            case 9:
                return new long[] {program.least(), model.least(-1, -1)};
            case 10:
                a = keep(0, about(6));
                return new long[] {program.value(a), model.value(a)};
            case 11:
                a = keep(0, about(6));
                b = keep(1, about(3));
                return new long[] {program.leastWith(a, b), model.leastWith(a, b)};
            case 12:
                return new long[] {program.ties(), model.ties()};
            case 13:
                return new long[] {program.allowed(), model.upTo(Integer.MAX_VALUE)};
            case 14:
                a = keep(0, about(140));
                return new long[] {program.upTo(a), model.upTo(a)};
            default:
                a = keep(0, about(6));
                b = keep(1, about(6));
                return new long[] {program.canAgree(a, b) ? 1 : 0, model.canAgree(a, b) ? 1 : 0};
        }
    }

    private static final class Table {
        final int x;
        final int y;
        final int[][] costs = new int[3][3];

        Table(int x, int y) {
            this.x = x;
            this.y = y;
        }
    }

    /** The document's words, with the assignments written out as lists of values. */
    private static final class Model {
        static final List<int[]> ASSIGNMENTS = new ArrayList<>();

        static {
            for (int a = 0; a < 3; a++)
                for (int b = 0; b < 3; b++)
                    for (int c = 0; c < 3; c++)
                        for (int d = 0; d < 3; d++)
                            for (int e = 0; e < 3; e++)
                                for (int f = 0; f < 3; f++)
                                    ASSIGNMENTS.add(new int[] {a, b, c, d, e, f});
        }

        final int[][] costs = new int[6][3];
        final List<Table> tables = new ArrayList<>();

        static boolean in(int number, int low, int high) {
            return low <= number && number <= high;
        }

        int cost(int variable, int value, int cost) {
            if (!in(variable, 0, 5)) return -1;
            if (!in(value, 0, 2)) return -2;
            if (!in(cost, 0, 20)) return -3;
            int old = costs[variable][value];
            costs[variable][value] = cost;
            return old;
        }

        int table(int x, int y) {
            if (!in(x, 0, 5) || !in(y, 0, 5) || x == y) return -1;
            if (tables.size() == 8) return -5;
            tables.add(new Table(x, y));
            return tables.size() - 1;
        }

        int pair(int table, int pair, int cost) {
            if (!in(table, 0, tables.size() - 1)) return -4;
            if (!in(pair, 0, 8)) return -2;
            if (!in(cost, 0, 20)) return -3;
            int[] row = tables.get(table).costs[pair % 3];
            int old = row[pair / 3];
            row[pair / 3] = cost;
            return old;
        }

        int drop() {
            if (tables.isEmpty()) return -4;
            tables.remove(tables.size() - 1);
            return tables.size();
        }

        List<Integer> met(int[] assignment) {
            List<Integer> all = new ArrayList<>();
            for (int variable = 0; variable < 6; variable++) all.add(costs[variable][assignment[variable]]);
            for (Table table : tables) all.add(table.costs[assignment[table.x]][assignment[table.y]]);
            return all;
        }

        boolean isAllowed(int[] assignment) {
            return !met(assignment).contains(20);
        }

        int sum(int[] assignment) {
            return met(assignment).stream().mapToInt(Integer::intValue).sum();
        }

        int least(int variable, int value) {
            return ASSIGNMENTS.stream()
                    .filter(a -> variable < 0 || a[variable] == value)
                    .filter(this::isAllowed).mapToInt(this::sum).min().orElse(-6);
        }

        List<int[]> best() {
            int least = least(-1, -1);
            return ASSIGNMENTS.stream().filter(a -> isAllowed(a) && sum(a) == least).toList();
        }

        int value(int variable) {
            if (!in(variable, 0, 5)) return -1;
            List<int[]> best = best();
            return best.isEmpty() ? -6 : best.get(0)[variable];
        }

        int leastWith(int variable, int value) {
            if (!in(variable, 0, 5)) return -1;
            if (!in(value, 0, 2)) return -2;
            return least(variable, value);
        }

        int ties() {
            return best().size();
        }

        int upTo(int bound) {
            return (int) ASSIGNMENTS.stream().filter(a -> isAllowed(a) && sum(a) <= bound).count();
        }

        boolean canAgree(int a, int b) {
            return in(a, 0, 5) && in(b, 0, 5) && best().stream().anyMatch(s -> s[a] == s[b]);
        }
    }
}
