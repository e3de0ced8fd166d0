/** A network of small costs to be made least: six variables, three values each, up to eight tables. */
public final class WeightedNetwork {
    public static final int BAD_VARIABLE = -1;
    public static final int BAD_VALUE = -2;
    public static final int BAD_COST = -3;
    public static final int BAD_TABLE = -4;
    public static final int FULL = -5;
    public static final int NONE = -6;

    private static final int VARIABLES = 6;
    private static final int VALUES = 3;
    private static final int PAIRS = 9;
    private static final int TABLES = 8;
    private static final int ASSIGNMENTS = 729;
    private static final int FORBIDS = 20;
    private static final int VALUE_COSTS = 18;
    private static final int PAIR_COSTS = 72;

    private final int[] valueCosts = new int[VALUE_COSTS];
    private final int[] pairCosts = new int[PAIR_COSTS];
    private final int[] tableX = new int[TABLES];
    private final int[] tableY = new int[TABLES];
    private int tableCount;

    public WeightedNetwork() {
        tableCount = 0;
    }

    public int cost(int variable, int value, int cost) {
        if (!isVariable(variable)) {
            return BAD_VARIABLE;
        }
        if (!isValue(value)) {
            return BAD_VALUE;
        }
        if (!isCost(cost)) {
            return BAD_COST;
        }
        int place = variable * VALUES + value;
        int old = valueCosts[place];
        valueCosts[place] = cost;
        return old;
    }

    public int table(int x, int y) {
        if (!isVariable(x) || !isVariable(y) || x == y) {
            return BAD_VARIABLE;
        }
        if (tableCount >= TABLES) {
            return FULL;
        }
        int added = tableCount;
        tableX[added] = x;
        tableY[added] = y;
        // A dropped table leaves its costs behind in the place that this one takes.
        for (int pair = 0; pair < PAIRS; pair++) {
            pairCosts[added * PAIRS + pair] = 0;
        }
        tableCount = added + 1;
        return added;
    }

    public int pair(int table, int pair, int cost) {
        if (table < 0 || table >= tableCount) {
            return BAD_TABLE;
        }
        if (pair < 0 || pair >= PAIRS) {
            return BAD_VALUE;
        }
        if (!isCost(cost)) {
            return BAD_COST;
        }
        int place = table * PAIRS + pair;
        int old = pairCosts[place];
        pairCosts[place] = cost;
        return old;
    }

    public int drop() {
        if (tableCount == 0) {
            return BAD_TABLE;
        }
        tableCount--;
        return tableCount;
    }

    public int least() {
        int first = firstOfLeastCost();
        if (first == NONE) {
            return NONE;
        }
        return costOf(first);
    }

    public int value(int variable) {
        if (!isVariable(variable)) {
            return BAD_VARIABLE;
        }
        int first = firstOfLeastCost();
        if (first == NONE) {
            return NONE;
        }
        return valueIn(first, variable);
    }

    public int leastWith(int variable, int value) {
        if (!isVariable(variable)) {
            return BAD_VARIABLE;
        }
        if (!isValue(value)) {
            return BAD_VALUE;
        }
        int best = NONE;
        for (int assignment = 0; assignment < ASSIGNMENTS; assignment++) {
            if (valueIn(assignment, variable) == value) {
                int sum = costOf(assignment);
                if (isBetter(sum, best)) {
                    best = sum;
                }
            }
        }
        return best;
    }

    public int ties() {
        int best = least();
        if (best == NONE) {
            return 0;
        }
        int count = 0;
        for (int assignment = 0; assignment < ASSIGNMENTS; assignment++) {
            if (costOf(assignment) == best) {
                count++;
            }
        }
        return count;
    }

    public int allowed() {
        int count = 0;
        for (int assignment = 0; assignment < ASSIGNMENTS; assignment++) {
            if (costOf(assignment) != NONE) {
                count++;
            }
        }
        return count;
    }

    public int upTo(int bound) {
        int count = 0;
        for (int assignment = 0; assignment < ASSIGNMENTS; assignment++) {
            int sum = costOf(assignment);
            if (sum != NONE && sum <= bound) {
                count++;
            }
        }
        return count;
    }

    public boolean canAgree(int a, int b) {
        if (!isVariable(a) || !isVariable(b)) {
            return false;
        }
        int best = least();
        if (best == NONE) {
            return false;
        }
        for (int assignment = 0; assignment < ASSIGNMENTS; assignment++) {
            if (valueIn(assignment, a) == valueIn(assignment, b) && costOf(assignment) == best) {
                return true;
            }
        }
        return false;
    }

    private static boolean isVariable(int variable) {
        return variable >= 0 && variable < VARIABLES;
    }

    private static boolean isValue(int value) {
        return value >= 0 && value < VALUES;
    }

    private static boolean isCost(int cost) {
        return cost >= 0 && cost <= FORBIDS;
    }

    /** NONE stands for the sum of what is not allowed, and for a best that has not been met yet. */
    private static boolean isBetter(int sum, int best) {
        return sum != NONE && (best == NONE || sum < best);
    }

    /**
     * An assignment is a number of six digits to the base 3. Variable 0 has the highest digit, so
     * that counting up goes through the assignments in the document's order.
     */
    private static int valueIn(int assignment, int variable) {
        int rest = assignment;
        for (int lower = VARIABLES - 1; lower > variable; lower--) {
            rest = rest / VALUES;
        }
        return rest % VALUES;
    }

    private int firstOfLeastCost() {
        int first = NONE;
        int best = NONE;
        for (int assignment = 0; assignment < ASSIGNMENTS; assignment++) {
            int sum = costOf(assignment);
            if (isBetter(sum, best)) {
                first = assignment;
                best = sum;
            }
        }
        return first;
    }

    /** The sum of all costs that the assignment meets; NONE, which no sum can be, if one forbids. */
    private int costOf(int assignment) {
        int sum = 0;
        for (int variable = 0; variable < VARIABLES; variable++) {
            int met = valueCosts[variable * VALUES + valueIn(assignment, variable)];
            if (met == FORBIDS) {
                return NONE;
            }
            sum += met;
        }
        for (int table = 0; table < tableCount; table++) {
            int valueOfX = valueIn(assignment, tableX[table]);
            int valueOfY = valueIn(assignment, tableY[table]);
            int met = pairCosts[table * PAIRS + valueOfY * VALUES + valueOfX];
            if (met == FORBIDS) {
                return NONE;
            }
            sum += met;
        }
        return sum;
    }
}
