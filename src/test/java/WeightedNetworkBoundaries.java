import java.util.ArrayList;
import java.util.List;
import java.util.function.Supplier;
import java.util.function.ToIntFunction;

/**
 * Every sentence of the document that names a boundary case, each in a test of its own: both sides of
 * each end of a range, the least and the greatest int, refused calls and what later calls answer then.
 * No object is used for more than 512 calls.
 */
public final class WeightedNetworkBoundaries {
    private static final int BAD_VARIABLE = -1;
    private static final int BAD_VALUE = -2;
    private static final int BAD_COST = -3;
    private static final int BAD_TABLE = -4;
    private static final int FULL = -5;
    private static final int NONE = -6;

    private static final int LEAST_INT = Integer.MIN_VALUE;
    private static final int GREATEST_INT = Integer.MAX_VALUE;

    private static final int[] NO_VARIABLES = outside(5);
    private static final int[] NO_VALUES = outside(2);
    private static final int[] NO_PAIRS = outside(8);
    private static final int[] NO_COSTS = outside(20);
    private static final int[] NO_TABLES = outside(7);

    private static String sentence = "";
    private static int wrong = 0;
    private static int broken = 0;

    public static void main(String[] args) {
        terms();
        promises1To5();
        promises6To13();
        System.out.println(broken == 0 ? "all sentences hold" : broken + " sentences are broken");
        if (broken != 0) {
            System.exit(1);
        }
    }

    private static void terms() {
        test("Terms: six VARIABLES (0 to 5), each with a value 0 to 2 (so 729 ASSIGNMENTS)",
                WeightedNetworkBoundaries::sixVariablesOfThreeValues);
        test("Terms: one, 0 to 20, for every value of every variable",
                WeightedNetworkBoundaries::oneCostForEveryValue);
        test("Terms: up to eight TABLES", WeightedNetworkBoundaries::upToEightTables);
        test("Terms: each over two different variables", WeightedNetworkBoundaries::overTwoDifferentVariables);
        test("Terms: one, 0 to 20, for each of the nine pairs of their values",
                WeightedNetworkBoundaries::oneCostForEachPair);
        test("Terms: a cost of 20 FORBIDS", WeightedNetworkBoundaries::twentyForbids);
    }

    private static void promises1To5() {
        test("1: all costs 0, no tables", WeightedNetworkBoundaries::newObject);
        test("2: variable not in 0 to 5: BAD_VARIABLE; nothing changes then",
                WeightedNetworkBoundaries::costOfNoVariable);
        test("2: value not in 0 to 2: BAD_VALUE; nothing changes then", WeightedNetworkBoundaries::costOfNoValue);
        test("2: cost not in 0 to 20: BAD_COST; nothing changes then", WeightedNetworkBoundaries::costOutOfRange);
        test("2: else answers the old one", WeightedNetworkBoundaries::costAnswersTheOldOne);
        test("3: x or y not in 0 to 5: BAD_VARIABLE; nothing changes then",
                WeightedNetworkBoundaries::tableOverNoVariable);
        test("3: or x == y: BAD_VARIABLE; nothing changes then", WeightedNetworkBoundaries::tableOverOneVariable);
        test("3: there are eight: FULL; nothing changes then", WeightedNetworkBoundaries::tableWhenFull);
        test("3: else answers its number, from 0", WeightedNetworkBoundaries::tableAnswersItsNumber);
        test("3: two tables may be over the same variables", WeightedNetworkBoundaries::tablesOverTheSame);
        test("3: all its costs 0", WeightedNetworkBoundaries::tableBeginsWithCostsOfZero);
        test("4: no such table: BAD_TABLE; nothing changes then", WeightedNetworkBoundaries::pairOfNoTable);
        test("4: pair not in 0 to 8: BAD_VALUE; nothing changes then", WeightedNetworkBoundaries::pairOutOfRange);
        test("4: cost not in 0 to 20: BAD_COST; nothing changes then",
                WeightedNetworkBoundaries::pairCostOutOfRange);
        test("4: else answers the old one", WeightedNetworkBoundaries::pairAnswersTheOldOne);
        test("4: x's value is pair % 3, y's is pair / 3", WeightedNetworkBoundaries::pairNamesTheValues);
        test("5: there is none: BAD_TABLE", WeightedNetworkBoundaries::dropOfNone);
        test("5: else answers how many are left", WeightedNetworkBoundaries::dropAnswersHowManyAreLeft);
    }

    private static void promises6To13() {
        test("6: NONE if none is allowed", WeightedNetworkBoundaries::leastOfNone);
        test("7: NONE if none is allowed", WeightedNetworkBoundaries::valueInNone);
        test("7: variable not in 0 to 5: BAD_VARIABLE (tested first)",
                WeightedNetworkBoundaries::valueOfNoVariable);
        test("8: BAD_VARIABLE", WeightedNetworkBoundaries::leastWithNoVariable);
        test("8: BAD_VALUE", WeightedNetworkBoundaries::leastWithNoValue);
        test("8: NONE", WeightedNetworkBoundaries::leastWithNone);
        test("9: 0 if none is allowed", WeightedNetworkBoundaries::tiesOfNone);
        test("10: how many assignments are allowed", WeightedNetworkBoundaries::allowedFromNoneToAll);
        test("11: how many allowed assignments cost at most 'bound'", WeightedNetworkBoundaries::upToTheBound);
        test("12: false if one is not in 0 to 5", WeightedNetworkBoundaries::canAgreeWithNoVariable);
        test("13: cost tests its refusals in order", WeightedNetworkBoundaries::orderInCost);
        test("13: table tests its refusals in order", WeightedNetworkBoundaries::orderInTable);
        test("13: pair tests its refusals in order", WeightedNetworkBoundaries::orderInPair);
        test("13: value and leastWith test their refusals in order", WeightedNetworkBoundaries::orderInQueries);
        // Last, as it asks each query with arguments that the sentences above are about.
        test("Terms: the calls below change nothing that any call answers",
                WeightedNetworkBoundaries::queriesChangeNothing);
    }

    // What the tests are written with.

    /** A call that throws or an answer that is not due breaks the sentence, and the others are still tested. */
    private static void test(String ofSentence, Runnable body) {
        sentence = ofSentence;
        wrong = 0;
        try {
            body.run();
        } catch (RuntimeException thrown) {
            wrong++;
            System.out.println("[" + sentence + "] threw " + thrown);
        }
        if (wrong != 0) {
            broken++;
            System.out.println("BROKEN (" + wrong + " answers): " + sentence);
        }
    }

    private static void due(String call, Object got, Object want) {
        if (!got.equals(want)) {
            wrong++;
            if (wrong <= 5) {
                System.out.println("[" + sentence + "] " + call + " answered " + got + ", due is " + want);
            }
        }
    }

    /**
     * Numbers beside the range 0 to last and far from it. Among the far ones are those that fall into the
     * range again when they are cut to fewer bits, or when three or nine times the number wraps around.
     */
    private static int[] outside(int last) {
        List<Integer> all = new ArrayList<>(List.of(-1, last + 1, LEAST_INT, GREATEST_INT));
        for (int more : new int[] {-2, -3, -9, last + 2, 2 * last + 2, 32, 64, 128, 256, 65536, 1 << 30,
                LEAST_INT + 1, GREATEST_INT - 1, 0x55555556, 0xAAAAAAAB, 0x1C71C71D, 0x38E38E39, 0x8E38E38F}) {
            if (more < 0 || more > last) {
                all.add(more);
            }
        }
        int[] numbers = new int[all.size()];
        for (int place = 0; place < numbers.length; place++) {
            numbers[place] = all.get(place);
        }
        return numbers;
    }

    /** The cost that filled() gives to a variable's value. */
    private static int filledCost(int variable, int value) {
        return variable == 3 && value == 1 ? 20 : 1 + (variable * 3 + value);
    }

    /** The cost that filled() gives to a table's pair. */
    private static int filledPair(int table, int pair) {
        return table == 1 && pair == 3 ? 20 : 1 + (table * 5 + pair * 7) % 19;
    }

    /** No cost is 0 (98 calls, if there are eight tables), so that what goes astray is seen. */
    private static WeightedNetwork filled(int tables) {
        WeightedNetwork n = new WeightedNetwork();
        for (int variable = 0; variable < 6; variable++) {
            for (int value = 0; value < 3; value++) {
                n.cost(variable, value, filledCost(variable, value));
            }
        }
        for (int table = 0; table < tables; table++) {
            n.table(table % 6, (table + 1 + table / 6) % 6);
            for (int pair = 0; pair < 9; pair++) {
                n.pair(table, pair, filledPair(table, pair));
            }
        }
        return n;
    }

    private static void forbidAll(WeightedNetwork n, int variable) {
        for (int value = 0; value < 3; value++) {
            n.cost(variable, value, 20);
        }
    }

    private static WeightedNetwork noneAllowed() {
        WeightedNetwork n = filled(2);
        forbidAll(n, 4);
        return n;
    }

    /** All that calls tell of an object's state (144 calls). It uses the object up. */
    private static List<Integer> everything(WeightedNetwork n) {
        List<Integer> all = whatQueriesTell(n);
        all.addAll(costsAndTables(n));
        return all;
    }

    private static List<Integer> whatQueriesTell(WeightedNetwork n) {
        List<Integer> all = new ArrayList<>(List.of(n.least(), n.ties(), n.allowed()));
        for (int bound = 0; bound <= 200; bound += 40) {
            all.add(n.upTo(bound));
        }
        for (int variable = 0; variable < 6; variable++) {
            all.add(n.value(variable));
            for (int value = 0; value < 3; value++) {
                all.add(n.leastWith(variable, value));
            }
            all.add(n.canAgree(variable, (variable + 1) % 6) ? 1 : 0);
            all.add(n.canAgree(variable, (variable + 2) % 6) ? 1 : 0);
        }
        return all;
    }

    /** Costs are read by setting them, not by a query: none can hide here what another one changed. */
    private static List<Integer> costsAndTables(WeightedNetwork n) {
        List<Integer> all = new ArrayList<>();
        for (int variable = 0; variable < 6; variable++) {
            for (int value = 0; value < 3; value++) {
                all.add(n.cost(variable, value, 0));
            }
        }
        for (int table = 0; table < 8; table++) {
            for (int pair = 0; pair < 9; pair++) {
                all.add(n.pair(table, pair, 0));
            }
        }
        for (int call = 0; call < 9; call++) {
            all.add(n.drop());
        }
        return all;
    }

    /** The call answers what is due, and later calls answer what they answer without it. */
    private static void changesNothing(String call, Supplier<WeightedNetwork> start,
            ToIntFunction<WeightedNetwork> made, int want) {
        WeightedNetwork n = start.get();
        due(call, made.applyAsInt(n), want);
        due("what comes after " + call, everything(n), everything(start.get()));
    }

    private static void costIsRefused(int variable, int value, int cost, int want) {
        changesNothing("cost(" + variable + ", " + value + ", " + cost + ")",
                () -> filled(2), n -> n.cost(variable, value, cost), want);
    }

    private static void tableIsRefused(int tables, int x, int y, int want) {
        changesNothing("table(" + x + ", " + y + ") beside " + tables,
                () -> filled(tables), n -> n.table(x, y), want);
    }

    private static void pairIsRefused(int tables, int table, int pair, int cost, int want) {
        changesNothing("pair(" + table + ", " + pair + ", " + cost + ") with " + tables + " tables",
                () -> filled(tables), n -> n.pair(table, pair, cost), want);
    }

    // Terms.

    private static void sixVariablesOfThreeValues() {
        WeightedNetwork n = new WeightedNetwork();
        due("allowed", n.allowed(), 729);
        for (int variable = 0; variable < 6; variable++) {
            due("value", n.value(variable), 0);
            for (int value = 0; value < 3; value++) {
                due("leastWith", n.leastWith(variable, value), 0);
            }
            due("leastWith a value below", n.leastWith(variable, -1), BAD_VALUE);
            due("leastWith a value above", n.leastWith(variable, 3), BAD_VALUE);
        }
        due("value below", n.value(-1), BAD_VARIABLE);
        due("value above", n.value(6), BAD_VARIABLE);
        for (int assignment = 0; assignment < 729; assignment++) {
            thisOneAlone(assignment);
        }
    }

    /** Every one of the 729 is there: with all but its values forbidden, it is what is left. */
    private static void thisOneAlone(int assignment) {
        int[] values = new int[6];
        int rest = assignment;
        for (int variable = 0; variable < 6; variable++) {
            values[variable] = rest % 3;
            rest = rest / 3;
        }
        WeightedNetwork n = new WeightedNetwork();
        for (int variable = 0; variable < 6; variable++) {
            n.cost(variable, (values[variable] + 1) % 3, 20);
            n.cost(variable, (values[variable] + 2) % 3, 20);
        }
        due("allowed", n.allowed(), 1);
        for (int variable = 0; variable < 6; variable++) {
            due("value(" + variable + ")", n.value(variable), values[variable]);
        }
    }

    private static void oneCostForEveryValue() {
        for (int variable = 0; variable < 6; variable++) {
            for (int value = 0; value < 3; value++) {
                everyCostOf(variable, value);
            }
        }
        WeightedNetwork n = filled(0);
        for (int variable = 0; variable < 6; variable++) {
            for (int value = 0; value < 3; value++) {
                due("each its own", n.cost(variable, value, 0), filledCost(variable, value));
            }
        }
    }

    private static void everyCostOf(int variable, int value) {
        WeightedNetwork n = new WeightedNetwork();
        int held = 0;
        for (int cost = 0; cost <= 20; cost++) {
            due("cost(" + variable + ", " + value + ", " + cost + ")", n.cost(variable, value, cost), held);
            held = cost;
            due("leastWith at " + cost, n.leastWith(variable, value), cost == 20 ? NONE : cost);
        }
        due("a cost below", n.cost(variable, value, -1), BAD_COST);
        due("a cost above", n.cost(variable, value, 21), BAD_COST);
        due("what is held", n.cost(variable, value, 0), 20);
    }

    private static void upToEightTables() {
        WeightedNetwork n = new WeightedNetwork();
        for (int table = 0; table < 8; table++) {
            due("table " + table, n.table(table % 6, (table + 1) % 6), table);
            for (int pair = 0; pair < 9; pair++) {
                n.pair(table, pair, 1 << table % 4);
            }
        }
        due("the sum over eight", n.least(), 2 * 15);
        due("a ninth", n.table(0, 1), FULL);
        due("the ninth's cost", n.pair(8, 0, 1), BAD_TABLE);
        due("the sum over eight again", n.least(), 2 * 15);
    }

    private static void overTwoDifferentVariables() {
        for (int x = 0; x < 6; x++) {
            for (int y = 0; y < 6; y++) {
                WeightedNetwork n = new WeightedNetwork();
                due("table(" + x + ", " + y + ")", n.table(x, y), x == y ? BAD_VARIABLE : 0);
                due("the cost of its last pair", n.pair(0, 8, 20), x == y ? BAD_TABLE : 0);
                due("allowed", n.allowed(), x == y ? 729 : 648);
                due("how many are left", n.drop(), x == y ? BAD_TABLE : 0);
            }
        }
    }

    private static void oneCostForEachPair() {
        for (int table = 0; table < 8; table++) {
            for (int pair = 0; pair < 9; pair++) {
                everyCostOfPair(table, pair);
            }
        }
        WeightedNetwork n = filled(8);
        for (int table = 0; table < 8; table++) {
            for (int pair = 0; pair < 9; pair++) {
                due("each its own", n.pair(table, pair, 0), filledPair(table, pair));
            }
        }
    }

    private static void everyCostOfPair(int table, int pair) {
        WeightedNetwork n = new WeightedNetwork();
        for (int before = 0; before <= table; before++) {
            n.table(0, 1);
        }
        forbidOtherValues(n, 0, pair % 3);
        forbidOtherValues(n, 1, pair / 3);
        int held = 0;
        for (int cost = 0; cost <= 20; cost++) {
            due("pair(" + table + ", " + pair + ", " + cost + ")", n.pair(table, pair, cost), held);
            held = cost;
            due("least at " + cost, n.least(), cost == 20 ? NONE : cost);
        }
        due("a cost below", n.pair(table, pair, -1), BAD_COST);
        due("a cost above", n.pair(table, pair, 21), BAD_COST);
        due("what is held", n.pair(table, pair, 0), 20);
    }

    private static void forbidOtherValues(WeightedNetwork n, int variable, int value) {
        n.cost(variable, (value + 1) % 3, 20);
        n.cost(variable, (value + 2) % 3, 20);
    }

    private static void twentyForbids() {
        for (int variable = 0; variable < 6; variable++) {
            for (int value = 0; value < 3; value++) {
                WeightedNetwork n = new WeightedNetwork();
                n.cost(variable, value, 19);
                due("a value at 19: allowed", n.allowed(), 729);
                n.cost(variable, value, 20);
                due("a value at 20: allowed", n.allowed(), 486);
                due("a value at 20: leastWith", n.leastWith(variable, value), NONE);
                n.cost(variable, value, 19);
                due("a value at 19 again: allowed", n.allowed(), 729);
            }
        }
        for (int table = 0; table < 8; table++) {
            for (int pair = 0; pair < 9; pair++) {
                pairOfTwentyForbids(table, pair);
            }
        }
        sumOfTwentyDoesNotForbid();
        twentyForbidsThoughTheRestCostsMore();
    }

    private static void pairOfTwentyForbids(int table, int pair) {
        WeightedNetwork n = new WeightedNetwork();
        for (int before = 0; before <= table; before++) {
            n.table(4, 2);
        }
        n.pair(table, pair, 19);
        due("a pair at 19: allowed", n.allowed(), 729);
        n.pair(table, pair, 20);
        due("a pair at 20: allowed", n.allowed(), 648);
        n.pair(table, pair, 19);
        due("a pair at 19 again: allowed", n.allowed(), 729);
    }

    private static void sumOfTwentyDoesNotForbid() {
        WeightedNetwork n = new WeightedNetwork();
        n.table(2, 3);
        for (int pair = 0; pair < 9; pair++) {
            n.pair(0, pair, 1);
        }
        for (int value = 0; value < 3; value++) {
            n.cost(0, value, 10);
            n.cost(5, value, 9);
        }
        due("a sum of 20: least", n.least(), 20);
        due("a sum of 20: allowed", n.allowed(), 729);
        for (int value = 0; value < 3; value++) {
            n.cost(5, value, 10);
        }
        due("a sum of 21: least", n.least(), 21);
        due("a sum of 21: ties", n.ties(), 729);
    }

    private static void twentyForbidsThoughTheRestCostsMore() {
        WeightedNetwork n = new WeightedNetwork();
        n.cost(1, 0, 20);
        n.cost(1, 1, 19);
        n.cost(1, 2, 19);
        n.cost(2, 0, 19);
        n.table(1, 2);
        for (int pair = 1; pair < 9; pair++) {
            n.pair(0, pair, 19);
        }
        due("least", n.least(), 38);
        due("value(1)", n.value(1), 1);
    }

    private static void queriesChangeNothing() {
        List<Supplier<WeightedNetwork>> starts = List.of(WeightedNetwork::new, () -> filled(0), () -> filled(2),
                () -> filled(8), WeightedNetworkBoundaries::noneAllowed);
        List<ToIntFunction<WeightedNetwork>> queries = queries();
        for (Supplier<WeightedNetwork> start : starts) {
            List<Integer> alone = new ArrayList<>();
            for (ToIntFunction<WeightedNetwork> query : queries) {
                alone.add(query.applyAsInt(start.get()));
            }
            List<Integer> costs = costsAndTables(start.get());
            for (int first = 0; first < queries.size(); first++) {
                WeightedNetwork n = start.get();
                queries.get(first).applyAsInt(n);
                due("costs and tables after query " + first, costsAndTables(n), costs);
                for (int second = 0; second < queries.size(); second++) {
                    WeightedNetwork m = start.get();
                    queries.get(first).applyAsInt(m);
                    due("query " + second + " after query " + first,
                            queries.get(second).applyAsInt(m), alone.get(second));
                }
            }
        }
    }

    private static List<ToIntFunction<WeightedNetwork>> queries() {
        List<ToIntFunction<WeightedNetwork>> all = new ArrayList<>();
        all.add(n -> n.least());
        all.add(n -> n.ties());
        all.add(n -> n.allowed());
        for (int number : new int[] {LEAST_INT, -1, 0, 1, 2, 3, 5, 6, 60, GREATEST_INT}) {
            all.add(n -> n.upTo(number));
            all.add(n -> n.value(number));
            all.add(n -> n.leastWith(number, 0));
            all.add(n -> n.leastWith(1, number));
            all.add(n -> n.canAgree(number, 1) ? 1 : 0);
            all.add(n -> n.canAgree(1, number) ? 1 : 0);
        }
        return all;
    }

    // Promises 1 to 5.

    private static void newObject() {
        WeightedNetwork other = filled(8);
        WeightedNetwork n = new WeightedNetwork();
        due("least", n.least(), 0);
        due("ties", n.ties(), 729);
        due("allowed", n.allowed(), 729);
        due("upTo(0)", n.upTo(0), 729);
        due("upTo(-1)", n.upTo(-1), 0);
        for (int table = 0; table < 8; table++) {
            due("pair of table " + table, n.pair(table, 0, 1), BAD_TABLE);
        }
        due("drop", n.drop(), BAD_TABLE);
        for (int variable = 0; variable < 6; variable++) {
            for (int value = 0; value < 3; value++) {
                due("cost", n.cost(variable, value, 0), 0);
            }
        }
        due("the first table", n.table(5, 0), 0);
        due("how many are left", n.drop(), 0);
        due("how many another object has left", other.drop(), 7);
    }

    private static void costOfNoVariable() {
        for (int bad : NO_VARIABLES) {
            for (int value = 0; value < 3; value++) {
                costIsRefused(bad, value, 7, BAD_VARIABLE);
            }
        }
        WeightedNetwork n = new WeightedNetwork();
        due("the least variable", n.cost(0, 0, 7), 0);
        due("the greatest variable", n.cost(5, 2, 8), 0);
        due("both in the sum", n.leastWith(0, 0) + n.leastWith(5, 2), 15);
    }

    private static void costOfNoValue() {
        for (int bad : NO_VALUES) {
            for (int variable : new int[] {0, 2, 5}) {
                costIsRefused(variable, bad, 7, BAD_VALUE);
            }
        }
        WeightedNetwork n = new WeightedNetwork();
        for (int variable = 0; variable < 6; variable++) {
            due("the least value", n.cost(variable, 0, 7), 0);
            due("the greatest value", n.cost(variable, 2, 8), 0);
            due("the least value's cost", n.leastWith(variable, 0), 7);
            due("the greatest value's cost", n.leastWith(variable, 2), 8);
        }
    }

    private static void costOutOfRange() {
        for (int bad : NO_COSTS) {
            costIsRefused(0, 0, bad, BAD_COST);
            costIsRefused(5, 2, bad, BAD_COST);
            costIsRefused(3, 1, bad, BAD_COST);
        }
        WeightedNetwork n = new WeightedNetwork();
        due("the greatest cost", n.cost(2, 1, 20), 0);
        due("above it", n.cost(2, 1, 21), BAD_COST);
        due("the least cost", n.cost(2, 1, 0), 20);
        due("below it", n.cost(2, 1, -1), BAD_COST);
        due("what is held", n.cost(2, 1, 5), 0);
    }

    private static void costAnswersTheOldOne() {
        WeightedNetwork n = filled(8);
        for (int variable = 0; variable < 6; variable++) {
            for (int value = 0; value < 3; value++) {
                due("the old one", n.cost(variable, value, 20), filledCost(variable, value));
                due("after a refusal", n.cost(variable, value, 21), BAD_COST);
                due("the old one, not the refused one", n.cost(variable, value, 0), 20);
                due("the same once more", n.cost(variable, value, 0), 0);
                due("a last one", n.cost(variable, value, filledCost(variable, value)), 0);
            }
        }
        due("all as before", everything(n), everything(filled(8)));
    }

    private static void tableOverNoVariable() {
        for (int bad : NO_VARIABLES) {
            for (int tables : new int[] {0, 2, 7, 8}) {
                tableIsRefused(tables, bad, 0, BAD_VARIABLE);
                tableIsRefused(tables, 5, bad, BAD_VARIABLE);
            }
            for (int other : NO_VARIABLES) {
                due("table(" + bad + ", " + other + ")", new WeightedNetwork().table(bad, other), BAD_VARIABLE);
            }
        }
        due("both ends", new WeightedNetwork().table(0, 5), 0);
        due("both ends, the other way round", new WeightedNetwork().table(5, 0), 0);
    }

    private static void tableOverOneVariable() {
        for (int variable = 0; variable < 6; variable++) {
            for (int tables : new int[] {0, 2, 7, 8}) {
                tableIsRefused(tables, variable, variable, BAD_VARIABLE);
            }
        }
        for (int variable = 0; variable < 5; variable++) {
            due("the next one", new WeightedNetwork().table(variable, variable + 1), 0);
            due("the one before", new WeightedNetwork().table(variable + 1, variable), 0);
        }
    }

    private static void tableWhenFull() {
        for (int x = 0; x < 6; x++) {
            for (int y = 0; y < 6; y++) {
                if (x != y) {
                    tableIsRefused(8, x, y, FULL);
                }
            }
        }
        WeightedNetwork n = filled(7);
        due("the eighth", n.table(0, 3), 7);
        due("a ninth", n.table(0, 3), FULL);
        due("a ninth again", n.table(3, 0), FULL);
        due("how many are left", n.drop(), 7);
        due("the eighth again", n.table(1, 4), 7);
        due("a ninth after that", n.table(1, 4), FULL);
    }

    private static void tableAnswersItsNumber() {
        WeightedNetwork n = new WeightedNetwork();
        for (int table = 0; table < 8; table++) {
            due("number", n.table(table % 6, 5 - table % 6), table);
            due("its own last cost", n.pair(table, 8, table + 1), 0);
            due("the next one's cost", n.pair(table + 1, 8, 1), BAD_TABLE);
        }
        for (int left = 7; left >= 0; left--) {
            n.drop();
            due("the number of the one taken out", n.table(2, 4), left);
            due("how many are left", n.drop(), left);
        }
        due("from 0 again", n.table(5, 4), 0);
        due("a refused one", n.table(5, 5), BAD_VARIABLE);
        due("no number is lost", n.table(4, 5), 1);
    }

    private static void tablesOverTheSame() {
        WeightedNetwork n = new WeightedNetwork();
        for (int table = 0; table < 8; table++) {
            due("number", table % 2 == 0 ? n.table(1, 4) : n.table(4, 1), table);
        }
        for (int table = 0; table < 8; table++) {
            for (int pair = 0; pair < 9; pair++) {
                due("each its own costs", n.pair(table, pair, 1 + table), 0);
            }
        }
        due("all in the sum", n.least(), 36);
        // Variable 1 at 0 and 4 at 2: pair 6 of table 0, pair 2 of table 1.
        n.pair(0, 6, 20);
        due("one of them forbids", n.allowed(), 648);
        n.pair(1, 2, 20);
        due("two forbid the same", n.allowed(), 648);
        n.pair(0, 6, 0);
        due("the other still forbids", n.allowed(), 648);
        n.pair(1, 2, 0);
        due("none forbids", n.allowed(), 729);
        due("two costs less", n.least(), 33);
    }

    private static void tableBeginsWithCostsOfZero() {
        WeightedNetwork n = new WeightedNetwork();
        for (int table = 0; table < 8; table++) {
            n.table(table % 6, (table + 1) % 6);
            due("the sum with a new table", n.upTo(0), 729);
            for (int pair = 0; pair < 9; pair++) {
                due("a new table's cost", n.pair(table, pair, 0), 0);
            }
        }
        for (int tables = 1; tables <= 8; tables++) {
            newTableInAnOldPlace(tables);
        }
    }

    private static void newTableInAnOldPlace(int tables) {
        WeightedNetwork n = filled(tables);
        for (int table = 0; table < tables; table++) {
            n.drop();
        }
        for (int table = 0; table < tables; table++) {
            due("number", n.table(5 - table % 6, (7 - table % 6) % 6), table);
        }
        due("what the queries tell", whatQueriesTell(n), whatQueriesTell(filled(0)));
        WeightedNetwork m = filled(tables);
        m.drop();
        m.table(0, 5);
        for (int pair = 0; pair < 9; pair++) {
            due("a new table's cost in an old place", m.pair(tables - 1, pair, 3), 0);
        }
    }

    private static void pairOfNoTable() {
        for (int tables = 0; tables <= 8; tables++) {
            pairIsRefused(tables, -1, 8, 7, BAD_TABLE);
            for (int table = tables; table <= 9; table++) {
                pairIsRefused(tables, table, 0, 7, BAD_TABLE);
            }
            due("the last table", filled(tables).pair(tables - 1, 8, 7),
                    tables == 0 ? BAD_TABLE : filledPair(tables - 1, 8));
        }
        for (int bad : NO_TABLES) {
            for (int pair = 0; pair < 9; pair += 4) {
                pairIsRefused(2, bad, pair, 7, BAD_TABLE);
                pairIsRefused(8, bad, pair, 7, BAD_TABLE);
            }
        }
        WeightedNetwork n = filled(8);
        for (int left = 7; left >= 0; left--) {
            n.drop();
            due("a table taken out", n.pair(left, 0, 1), BAD_TABLE);
        }
    }

    private static void pairOutOfRange() {
        for (int bad : NO_PAIRS) {
            pairIsRefused(2, 0, bad, 7, BAD_VALUE);
            pairIsRefused(2, 1, bad, 7, BAD_VALUE);
            pairIsRefused(8, 7, bad, 7, BAD_VALUE);
        }
        WeightedNetwork n = new WeightedNetwork();
        n.table(3, 0);
        due("the least pair", n.pair(0, 0, 20), 0);
        due("the greatest pair", n.pair(0, 8, 20), 0);
        due("allowed without both", n.allowed(), 729 - 2 * 81);
    }

    private static void pairCostOutOfRange() {
        for (int bad : NO_COSTS) {
            pairIsRefused(2, 0, 0, bad, BAD_COST);
            pairIsRefused(2, 1, 3, bad, BAD_COST);
            pairIsRefused(8, 7, 8, bad, BAD_COST);
        }
        WeightedNetwork n = new WeightedNetwork();
        n.table(2, 1);
        due("the greatest cost", n.pair(0, 4, 20), 0);
        due("above it", n.pair(0, 4, 21), BAD_COST);
        due("the least cost", n.pair(0, 4, 0), 20);
        due("below it", n.pair(0, 4, -1), BAD_COST);
        due("what is held", n.pair(0, 4, 5), 0);
    }

    private static void pairAnswersTheOldOne() {
        for (int table = 0; table < 8; table++) {
            WeightedNetwork n = filled(8);
            for (int pair = 0; pair < 9; pair++) {
                due("the old one", n.pair(table, pair, 20), filledPair(table, pair));
                due("after a refusal", n.pair(table, pair, 21), BAD_COST);
                due("the old one, not the refused one", n.pair(table, pair, 0), 20);
                due("the same once more", n.pair(table, pair, 0), 0);
                due("a last one", n.pair(table, pair, filledPair(table, pair)), 0);
            }
            due("all as before", everything(n), everything(filled(8)));
        }
    }

    private static void pairNamesTheValues() {
        for (int x = 0; x < 6; x++) {
            for (int y = 0; y < 6; y++) {
                for (int pair = 0; pair < 9 && x != y; pair++) {
                    onlyThisPair(x, y, pair);
                }
            }
        }
    }

    private static void onlyThisPair(int x, int y, int only) {
        WeightedNetwork n = new WeightedNetwork();
        n.table(x, y);
        for (int pair = 0; pair < 9; pair++) {
            n.pair(0, pair, pair == only ? 0 : 20);
        }
        String call = "table(" + x + ", " + y + "), pair " + only + ": ";
        for (int value = 0; value < 3; value++) {
            due(call + "x at " + value, n.leastWith(x, value), value == only % 3 ? 0 : NONE);
            due(call + "y at " + value, n.leastWith(y, value), value == only / 3 ? 0 : NONE);
        }
        due(call + "allowed", n.allowed(), 81);
    }

    private static void dropOfNone() {
        changesNothing("drop on a new object", WeightedNetwork::new, n -> n.drop(), BAD_TABLE);
        changesNothing("drop without a table", () -> filled(0), n -> n.drop(), BAD_TABLE);
        WeightedNetwork n = filled(1);
        due("the only one", n.drop(), 0);
        for (int call = 0; call < 20; call++) {
            due("none", n.drop(), BAD_TABLE);
        }
        due("the first after that", n.table(0, 1), 0);
        due("how many are left", n.drop(), 0);
        due("none again", n.drop(), BAD_TABLE);
    }

    private static void dropAnswersHowManyAreLeft() {
        for (int tables = 1; tables <= 8; tables++) {
            WeightedNetwork n = filled(tables);
            due("one of " + tables, n.drop(), tables - 1);
            due("what is there after one of " + tables, everything(n), everything(filled(tables - 1)));
        }
        WeightedNetwork n = filled(8);
        for (int left = 7; left >= 0; left--) {
            due("left", n.drop(), left);
        }
        due("none is left", n.drop(), BAD_TABLE);
    }

    // Promises 6 to 13.

    private static void leastOfNone() {
        for (int variable = 0; variable < 6; variable++) {
            WeightedNetwork n = new WeightedNetwork();
            forbidAll(n, variable);
            due("least without a value for " + variable, n.least(), NONE);
            n.cost(variable, 2, 19);
            due("least with one value for " + variable, n.least(), 19);
            WeightedNetwork m = filled(8);
            forbidAll(m, variable);
            due("least without a value for " + variable + ", no other cost 0", m.least(), NONE);
        }
        WeightedNetwork n = forbiddenByOneTable();
        due("least without a pair", n.least(), NONE);
        n.pair(0, 8, 19);
        due("least with one pair", n.least(), 19);
        n.pair(0, 8, 20);
        due("least without a pair again", n.least(), NONE);
        n.drop();
        due("least without the table", n.least(), 0);
        due("least where value and table forbid", forbiddenByBoth().least(), NONE);
        due("least of a new object", new WeightedNetwork().least(), 0);
        due("least of the last assignment alone", onlyOneAllowed().least(), 6 * 19);
        due("the greatest least", allAtNineteen().least(), 14 * 19);
    }

    private static WeightedNetwork forbiddenByOneTable() {
        WeightedNetwork n = new WeightedNetwork();
        n.table(5, 1);
        for (int pair = 0; pair < 9; pair++) {
            n.pair(0, pair, 20);
        }
        return n;
    }

    /** Two tables and two values forbid together, none of them alone. */
    private static WeightedNetwork forbiddenByBoth() {
        WeightedNetwork n = new WeightedNetwork();
        n.cost(0, 0, 20);
        n.cost(1, 0, 20);
        // Variable 1 at value 1, with variable 0 at 1 and at 2.
        n.table(0, 1);
        n.pair(0, 4, 20);
        n.pair(0, 5, 20);
        // Variable 1 at value 2, with variable 0 at 1 and at 2.
        n.table(1, 0);
        n.pair(1, 5, 20);
        n.pair(1, 8, 20);
        return n;
    }

    private static WeightedNetwork allAtNineteen() {
        WeightedNetwork n = filled(8);
        for (int variable = 0; variable < 6; variable++) {
            for (int value = 0; value < 3; value++) {
                n.cost(variable, value, 19);
            }
        }
        for (int table = 0; table < 8; table++) {
            for (int pair = 0; pair < 9; pair++) {
                n.pair(table, pair, 19);
            }
        }
        return n;
    }

    private static void valueInNone() {
        for (int forbidden = 0; forbidden < 6; forbidden++) {
            WeightedNetwork n = new WeightedNetwork();
            forbidAll(n, forbidden);
            WeightedNetwork m = filled(8);
            forbidAll(m, forbidden);
            for (int variable = 0; variable < 6; variable++) {
                due("value(" + variable + ") without a value for " + forbidden, n.value(variable), NONE);
                due("value(" + variable + ") without a value for " + forbidden + ", no other cost 0",
                        m.value(variable), NONE);
            }
            n.cost(forbidden, 2, 19);
            due("value with one value", n.value(forbidden), 2);
            due("value in the last assignment alone", onlyOneAllowed().value(forbidden), 2);
        }
        WeightedNetwork n = forbiddenByOneTable();
        for (int variable = 0; variable < 6; variable++) {
            due("value without a pair", n.value(variable), NONE);
            due("value where value and table forbid", forbiddenByBoth().value(variable), NONE);
        }
        n.pair(0, 5, 19);
        due("value of x with one pair", n.value(5), 2);
        due("value of y with one pair", n.value(1), 1);
    }

    private static void valueOfNoVariable() {
        WeightedNetwork none = noneAllowed();
        WeightedNetwork full = filled(8);
        for (int bad : NO_VARIABLES) {
            due("value(" + bad + ") of a new object", new WeightedNetwork().value(bad), BAD_VARIABLE);
            due("value(" + bad + ") with tables", full.value(bad), BAD_VARIABLE);
            due("value(" + bad + ") if none is allowed", none.value(bad), BAD_VARIABLE);
        }
        WeightedNetwork n = new WeightedNetwork();
        n.cost(0, 0, 1);
        n.cost(5, 0, 1);
        n.cost(5, 1, 1);
        due("the least variable", n.value(0), 1);
        due("the greatest variable", n.value(5), 2);
        due("the least variable if none is allowed", none.value(0), NONE);
        due("the greatest variable if none is allowed", none.value(5), NONE);
    }

    private static void leastWithNoVariable() {
        WeightedNetwork none = noneAllowed();
        WeightedNetwork full = filled(8);
        for (int bad : NO_VARIABLES) {
            for (int value = 0; value < 3; value++) {
                due("leastWith(" + bad + ", " + value + ")", full.leastWith(bad, value), BAD_VARIABLE);
                due("leastWith(" + bad + ", " + value + "), none", none.leastWith(bad, value), BAD_VARIABLE);
            }
        }
        WeightedNetwork n = new WeightedNetwork();
        n.cost(0, 0, 3);
        n.cost(5, 0, 4);
        due("the least variable", n.leastWith(0, 0), 3);
        due("the greatest variable", n.leastWith(5, 0), 4);
    }

    private static void leastWithNoValue() {
        for (int bad : NO_VALUES) {
            WeightedNetwork none = noneAllowed();
            WeightedNetwork full = filled(8);
            for (int variable = 0; variable < 6; variable++) {
                due("leastWith(" + variable + ", " + bad + ")", full.leastWith(variable, bad), BAD_VALUE);
                due("leastWith(" + variable + ", " + bad + "), none", none.leastWith(variable, bad), BAD_VALUE);
            }
        }
        WeightedNetwork n = new WeightedNetwork();
        n.cost(2, 0, 3);
        n.cost(2, 2, 4);
        due("the least value", n.leastWith(2, 0), 3);
        due("the greatest value", n.leastWith(2, 2), 4);
    }

    private static void leastWithNone() {
        for (int variable = 0; variable < 6; variable++) {
            for (int value = 0; value < 3; value++) {
                WeightedNetwork n = new WeightedNetwork();
                n.cost(variable, value, 20);
                due("the forbidden value", n.leastWith(variable, value), NONE);
                due("the next value", n.leastWith(variable, (value + 1) % 3), 0);
                due("another variable", n.leastWith((variable + 1) % 6, value), 0);
                n.cost(variable, value, 19);
                due("the value at 19", n.leastWith(variable, value), 19);
                due("none at all", noneAllowed().leastWith(variable, value), NONE);
                due("no pair", forbiddenByOneTable().leastWith(variable, value), NONE);
                due("value and table", forbiddenByBoth().leastWith(variable, value), NONE);
            }
        }
        WeightedNetwork n = new WeightedNetwork();
        n.table(4, 3);
        for (int pair = 1; pair < 9; pair += 3) {
            n.pair(0, pair, 20);
        }
        due("every pair of the value forbidden", n.leastWith(4, 1), NONE);
        n.pair(0, 7, 19);
        due("every pair but one", n.leastWith(4, 1), 19);
        due("y", n.leastWith(3, 1), 0);
    }

    private static void tiesOfNone() {
        for (int variable = 0; variable < 6; variable++) {
            WeightedNetwork n = new WeightedNetwork();
            due("all", n.ties(), 729);
            n.cost(variable, 0, 20);
            n.cost(variable, 1, 20);
            due("one value left", n.ties(), 243);
            n.cost(variable, 2, 20);
            due("none is allowed", n.ties(), 0);
        }
        WeightedNetwork n = forbiddenByOneTable();
        due("no pair", n.ties(), 0);
        n.pair(0, 0, 19);
        due("one pair", n.ties(), 81);
        due("value and table", forbiddenByBoth().ties(), 0);
        due("one alone", onlyOneAllowed().ties(), 1);
        due("the greatest cost", allAtNineteen().ties(), 729);
    }

    /** The last assignment, at the greatest cost that six values can have. */
    private static WeightedNetwork onlyOneAllowed() {
        WeightedNetwork n = new WeightedNetwork();
        for (int variable = 0; variable < 6; variable++) {
            forbidOtherValues(n, variable, 2);
            n.cost(variable, 2, 19);
        }
        return n;
    }

    private static void allowedFromNoneToAll() {
        WeightedNetwork n = new WeightedNetwork();
        int left = 729;
        due("all", n.allowed(), left);
        for (int variable = 5; variable >= 0; variable--) {
            n.cost(variable, variable % 3, 20);
            left = left / 3 * 2;
            due("a value less", n.allowed(), left);
        }
        for (int variable = 0; variable < 6; variable++) {
            n.cost(variable, (variable + 1) % 3, 20);
            left = left / 2;
            due("two values less", n.allowed(), left);
        }
        due("one is left", left, 1);
        n.cost(4, 0, 20);
        due("none", n.allowed(), 0);
        due("one at the greatest cost", onlyOneAllowed().allowed(), 1);
        due("all at the greatest cost", allAtNineteen().allowed(), 729);
        due("value and table", forbiddenByBoth().allowed(), 0);
        WeightedNetwork m = forbiddenByOneTable();
        for (int pair = 0; pair < 9; pair++) {
            due("pairs allowed", m.allowed(), 81 * pair);
            m.pair(0, pair, 19);
        }
        due("all pairs allowed", m.allowed(), 729);
    }

    private static void upToTheBound() {
        boundsOf("new", new WeightedNetwork(), 0, 729);
        boundsOf("one alone", onlyOneAllowed(), 6 * 19, 1);
        boundsOf("all at the greatest cost", allAtNineteen(), 14 * 19, 729);
        WeightedNetwork[] withoutAny = {noneAllowed(), forbiddenByOneTable(), forbiddenByBoth()};
        for (WeightedNetwork n : withoutAny) {
            for (int bound : new int[] {LEAST_INT, NONE - 1, NONE, NONE + 1, -1, 0, 20, 40, 266, GREATEST_INT}) {
                due("upTo(" + bound + ") if none is allowed", n.upTo(bound), 0);
            }
        }
        WeightedNetwork n = new WeightedNetwork();
        for (int value = 0; value < 3; value++) {
            n.cost(0, value, 1 + value);
            n.cost(5, value, 3 * value);
        }
        for (int bound = -1; bound <= 11; bound++) {
            int costs = bound < 1 ? 0 : bound > 9 ? 9 : bound;
            due("upTo(" + bound + ")", n.upTo(bound), 81 * costs);
        }
        n.cost(0, 1, 20);
        due("upTo(8) without a forbidden value", n.upTo(8), 81 * 5);
        boundsOf("with a forbidden value, its upper end", n, 9, 486, 81);
    }

    private static void boundsOf(String what, WeightedNetwork n, int cost, int count) {
        boundsOf(what, n, cost, count, count);
    }

    /** 'cost' is the greatest of an allowed assignment, 'at' is how many have just that cost. */
    private static void boundsOf(String what, WeightedNetwork n, int cost, int count, int at) {
        due(what + ": below the cost", n.upTo(cost - 1), count - at);
        for (int bound : new int[] {cost, cost + 1, cost + 20, 1000, GREATEST_INT - 1, GREATEST_INT}) {
            due(what + ": upTo(" + bound + ")", n.upTo(bound), count);
        }
        for (int bound : new int[] {LEAST_INT, LEAST_INT + 1, -1000, NONE - 1, NONE, NONE + 1, -1}) {
            due(what + ": upTo(" + bound + ")", n.upTo(bound), 0);
        }
    }

    private static void canAgreeWithNoVariable() {
        WeightedNetwork n = new WeightedNetwork();
        for (int variable = 0; variable < 6; variable++) {
            for (int other = 0; other < 6; other++) {
                due("canAgree(" + variable + ", " + other + ")", n.canAgree(variable, other), true);
            }
            for (int bad : NO_VARIABLES) {
                due("canAgree(" + variable + ", " + bad + ")", n.canAgree(variable, bad), false);
                due("canAgree(" + bad + ", " + variable + ")", n.canAgree(bad, variable), false);
            }
        }
        for (int bad : NO_VARIABLES) {
            for (int other : NO_VARIABLES) {
                due("canAgree(" + bad + ", " + other + ")", new WeightedNetwork().canAgree(bad, other), false);
                due("canAgree(" + bad + ", " + other + "), none", noneAllowed().canAgree(bad, other), false);
            }
        }
        WeightedNetwork none = noneAllowed();
        for (int variable = 0; variable < 6; variable++) {
            due("none is allowed", none.canAgree(variable, 5 - variable), false);
            due("none is allowed, with itself", none.canAgree(variable, variable), false);
        }
        agreeInLeastAlone();
    }

    /** What is not allowed, or costs one more, does not count; the last of those that tie does. */
    private static void agreeInLeastAlone() {
        WeightedNetwork n = new WeightedNetwork();
        n.table(0, 5);
        n.pair(0, 0, 20);
        n.pair(0, 4, 1);
        due("the last of those that tie", n.canAgree(0, 5), true);
        due("the last of those that tie, the other way round", n.canAgree(5, 0), true);
        n.pair(0, 8, 1);
        due("one more than the least", n.canAgree(0, 5), false);
        due("one more than the least, the other way round", n.canAgree(5, 0), false);
        due("with itself", n.canAgree(0, 0), true);
    }

    private static void orderInCost() {
        for (int variable : NO_VARIABLES) {
            for (int value : NO_VALUES) {
                due("cost, variable and value", filled(0).cost(variable, value, 1), BAD_VARIABLE);
                for (int cost : NO_COSTS) {
                    due("cost, all three", new WeightedNetwork().cost(variable, value, cost), BAD_VARIABLE);
                }
            }
            for (int cost : NO_COSTS) {
                due("cost, variable and cost", filled(0).cost(variable, 2, cost), BAD_VARIABLE);
            }
        }
        for (int value : NO_VALUES) {
            for (int cost : NO_COSTS) {
                due("cost, value and cost", filled(0).cost(5, value, cost), BAD_VALUE);
            }
        }
        costIsRefused(-1, 3, 21, BAD_VARIABLE);
        costIsRefused(6, -1, 7, BAD_VARIABLE);
        costIsRefused(1, -1, -1, BAD_VALUE);
    }

    private static void orderInTable() {
        for (int bad : NO_VARIABLES) {
            for (int variable = 0; variable < 6; variable++) {
                due("table, x when full", filled(8).table(bad, variable), BAD_VARIABLE);
                due("table, y when full", filled(8).table(variable, bad), BAD_VARIABLE);
            }
            due("table, both when full", filled(8).table(bad, bad), BAD_VARIABLE);
        }
        for (int variable = 0; variable < 6; variable++) {
            due("table, x == y when full", filled(8).table(variable, variable), BAD_VARIABLE);
        }
        due("table, full alone", filled(8).table(0, 5), FULL);
        tableIsRefused(8, -1, 6, BAD_VARIABLE);
    }

    private static void orderInPair() {
        for (int tables : new int[] {0, 2, 8}) {
            for (int pair : NO_PAIRS) {
                due("pair, table and pair", filled(tables).pair(tables, pair, 1), BAD_TABLE);
                due("pair, table and pair", filled(tables).pair(-1, pair, 1), BAD_TABLE);
                for (int cost : NO_COSTS) {
                    due("pair, all three", filled(tables).pair(tables, pair, cost), BAD_TABLE);
                    due("pair, pair and cost", filled(tables).pair(0, pair, cost), tables == 0 ? BAD_TABLE : BAD_VALUE);
                }
            }
            for (int cost : NO_COSTS) {
                due("pair, table and cost", filled(tables).pair(tables, 8, cost), BAD_TABLE);
                due("pair, table and cost", filled(tables).pair(LEAST_INT, 0, cost), BAD_TABLE);
            }
        }
        pairIsRefused(2, 2, -1, 21, BAD_TABLE);
        pairIsRefused(2, -1, 9, 7, BAD_TABLE);
        pairIsRefused(2, 1, -1, -1, BAD_VALUE);
    }

    private static void orderInQueries() {
        for (int variable : NO_VARIABLES) {
            WeightedNetwork none = noneAllowed();
            due("value, variable and none", none.value(variable), BAD_VARIABLE);
            due("leastWith, variable and none", none.leastWith(variable, 2), BAD_VARIABLE);
            for (int value : NO_VALUES) {
                due("leastWith, all three", none.leastWith(variable, value), BAD_VARIABLE);
                due("leastWith, variable and value", filled(2).leastWith(variable, value), BAD_VARIABLE);
            }
        }
        for (int value : NO_VALUES) {
            due("leastWith, value and none", noneAllowed().leastWith(4, value), BAD_VALUE);
            due("leastWith, value and none", forbiddenByOneTable().leastWith(0, value), BAD_VALUE);
        }
    }
}
