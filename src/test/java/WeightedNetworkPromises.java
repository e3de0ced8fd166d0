import java.util.ArrayList;
import java.util.List;

/**
 * The document's promises, one method for each: ordinary inputs, the edges that the document names,
 * wrong inputs. No object is used for more than 512 calls.
 */
public final class WeightedNetworkPromises {
    private static final int BAD_VARIABLE = -1;
    private static final int BAD_VALUE = -2;
    private static final int BAD_COST = -3;
    private static final int BAD_TABLE = -4;
    private static final int FULL = -5;
    private static final int NONE = -6;

    private static final int[] NO_VARIABLES = {-1, 6, 7, 18, Integer.MIN_VALUE, Integer.MAX_VALUE};
    private static final int[] NO_VALUES = {-1, 3, 4, 9, Integer.MIN_VALUE, Integer.MAX_VALUE};
    private static final int[] NO_PAIRS = {-1, 9, 10, 72, Integer.MIN_VALUE, Integer.MAX_VALUE};
    private static final int[] NO_COSTS = {-1, 21, 22, 40, Integer.MIN_VALUE, Integer.MAX_VALUE};

    private static int wrong = 0;

    public static void main(String[] args) {
        constants();
        promise1NewObject();
        promise2Cost();
        promise3Table();
        promise4Pair();
        promise5Drop();
        promise6Least();
        promise7Value();
        promise8LeastWith();
        promise9Ties();
        promise10Allowed();
        promise11UpTo();
        promise12CanAgree();
        promise13OrderAndLimits();
        queriesChangeNothing();
        System.out.println(wrong == 0 ? "all promises hold" : wrong + " answers are not as due");
        if (wrong != 0) {
            System.exit(1);
        }
    }

    private static void due(String what, Object got, Object want) {
        if (!got.equals(want)) {
            wrong++;
            System.out.println(what + " answered " + got + ", due is " + want);
        }
    }

    /** All that the queries tell of an object's state (89 calls). */
    private static List<Integer> seen(WeightedNetwork n) {
        List<Integer> all = new ArrayList<>();
        all.add(n.least());
        all.add(n.ties());
        all.add(n.allowed());
        for (int bound = 0; bound <= 250; bound += 10) {
            all.add(n.upTo(bound));
        }
        for (int variable = 0; variable < 6; variable++) {
            all.add(n.value(variable));
            for (int value = 0; value < 3; value++) {
                all.add(n.leastWith(variable, value));
            }
            for (int other = 0; other < 6; other++) {
                all.add(n.canAgree(variable, other) ? 1 : 0);
            }
        }
        return all;
    }

    /** A network in which every variable, value and table counts. */
    private static WeightedNetwork sample() {
        WeightedNetwork n = new WeightedNetwork();
        for (int variable = 0; variable < 6; variable++) {
            for (int value = 0; value < 3; value++) {
                n.cost(variable, value, (variable * 5 + value * 7 + 3) % 11);
            }
        }
        n.cost(3, 1, 20);
        n.table(0, 1);
        n.table(4, 2);
        for (int pair = 0; pair < 9; pair++) {
            n.pair(0, pair, (pair * 4 + 1) % 9);
            n.pair(1, pair, (pair * 5 + 2) % 9);
        }
        n.pair(1, 3, 20);
        return n;
    }

    private static void forbidAll(WeightedNetwork n, int variable) {
        for (int value = 0; value < 3; value++) {
            n.cost(variable, value, 20);
        }
    }

    private static void constants() {
        due("BAD_VARIABLE", WeightedNetwork.BAD_VARIABLE, BAD_VARIABLE);
        due("BAD_VALUE", WeightedNetwork.BAD_VALUE, BAD_VALUE);
        due("BAD_COST", WeightedNetwork.BAD_COST, BAD_COST);
        due("BAD_TABLE", WeightedNetwork.BAD_TABLE, BAD_TABLE);
        due("FULL", WeightedNetwork.FULL, FULL);
        due("NONE", WeightedNetwork.NONE, NONE);
    }

    private static void promise1NewObject() {
        WeightedNetwork n = new WeightedNetwork();
        due("1: least", n.least(), 0);
        due("1: ties", n.ties(), 729);
        due("1: allowed", n.allowed(), 729);
        due("1: upTo(0)", n.upTo(0), 729);
        due("1: pair(0, 0, 0)", n.pair(0, 0, 0), BAD_TABLE);
        due("1: drop", n.drop(), BAD_TABLE);
        for (int variable = 0; variable < 6; variable++) {
            due("1: value", n.value(variable), 0);
            for (int value = 0; value < 3; value++) {
                due("1: leastWith", n.leastWith(variable, value), 0);
                due("1: cost", n.cost(variable, value, 0), 0);
            }
        }
        due("1: table", n.table(0, 1), 0);
        due("1: another object's costs", new WeightedNetwork().cost(0, 0, 0), 0);
        due("1: another object's tables", new WeightedNetwork().drop(), BAD_TABLE);
    }

    private static void promise2Cost() {
        WeightedNetwork n = new WeightedNetwork();
        for (int variable = 0; variable < 6; variable++) {
            for (int value = 0; value < 3; value++) {
                due("2: first", n.cost(variable, value, variable * 3 + value), 0);
            }
        }
        for (int variable = 0; variable < 6; variable++) {
            for (int value = 0; value < 3; value++) {
                due("2: second", n.cost(variable, value, 20), variable * 3 + value);
                due("2: third", n.cost(variable, value, 0), 20);
                due("2: fourth", n.cost(variable, value, 19), 0);
            }
        }
        due("2: in the sum", n.least(), 6 * 19);

        WeightedNetwork s = sample();
        List<Integer> before = seen(s);
        for (int bad : NO_VARIABLES) {
            due("2: variable " + bad, s.cost(bad, 0, 1), BAD_VARIABLE);
        }
        for (int bad : NO_VALUES) {
            for (int variable = 0; variable < 6; variable++) {
                due("2: value " + bad, s.cost(variable, bad, 1), BAD_VALUE);
            }
        }
        for (int bad : NO_COSTS) {
            due("2: cost " + bad, s.cost(2, 2, bad), BAD_COST);
        }
        due("2: refusals change nothing", seen(s), before);
        due("2: old one after refusals", s.cost(2, 2, 1), (2 * 5 + 2 * 7 + 3) % 11);
    }

    private static void promise3Table() {
        WeightedNetwork n = new WeightedNetwork();
        int[][] over = {{0, 1}, {0, 1}, {1, 0}, {5, 0}, {0, 5}, {4, 5}, {2, 3}, {3, 2}};
        for (int table = 0; table < 8; table++) {
            due("3: number", n.table(over[table][0], over[table][1]), table);
        }
        due("3: all costs 0", n.upTo(0), 729);
        for (int table = 0; table < 8; table++) {
            for (int pair = 0; pair < 9; pair++) {
                due("3: a new table's cost", n.pair(table, pair, table + 1), 0);
            }
        }
        due("3: eight tables in the sum", n.least(), 36);
        due("3: a ninth", n.table(0, 1), FULL);
        due("3: a ninth again", n.table(2, 4), FULL);
        due("3: none counted", n.drop(), 7);
        due("3: room again", n.table(2, 4), 7);
        for (int pair = 0; pair < 9; pair++) {
            due("3: a new table in an old place", n.pair(7, pair, 0), 0);
        }
        due("3: sum without the dropped one", n.least(), 28);

        WeightedNetwork s = sample();
        List<Integer> before = seen(s);
        for (int bad : NO_VARIABLES) {
            due("3: x " + bad, s.table(bad, 1), BAD_VARIABLE);
            due("3: y " + bad, s.table(1, bad), BAD_VARIABLE);
            due("3: both " + bad, s.table(bad, bad), BAD_VARIABLE);
        }
        for (int variable = 0; variable < 6; variable++) {
            due("3: x == y", s.table(variable, variable), BAD_VARIABLE);
        }
        due("3: refusals change nothing", seen(s), before);
        due("3: number after refusals", s.table(0, 5), 2);
        due("3: a table of costs 0 changes no sum", seen(s), before);

        for (int x = 0; x < 6; x++) {
            for (int y = 0; y < 6; y++) {
                due("3: every two", new WeightedNetwork().table(x, y), x == y ? BAD_VARIABLE : 0);
            }
        }
    }

    private static void promise4Pair() {
        for (int x = 0; x < 6; x++) {
            for (int y = 0; y < 6; y++) {
                if (x != y) {
                    pairOver(x, y);
                }
            }
        }
        WeightedNetwork n = new WeightedNetwork();
        n.table(0, 1);
        n.table(0, 1);
        for (int pair = 0; pair < 9; pair++) {
            due("4: first", n.pair(1, pair, pair + 5), 0);
            due("4: second", n.pair(1, pair, 20), pair + 5);
            due("4: third", n.pair(1, pair, 0), 20);
            due("4: the other table's", n.pair(0, pair, 0), 0);
        }

        WeightedNetwork s = sample();
        List<Integer> before = seen(s);
        for (int bad : new int[] {-1, 2, 3, 7, 8, 9, Integer.MIN_VALUE, Integer.MAX_VALUE}) {
            due("4: table " + bad, s.pair(bad, 0, 1), BAD_TABLE);
        }
        for (int bad : NO_PAIRS) {
            due("4: pair " + bad, s.pair(0, bad, 1), BAD_VALUE);
            due("4: pair " + bad, s.pair(1, bad, 1), BAD_VALUE);
        }
        for (int bad : NO_COSTS) {
            due("4: cost " + bad, s.pair(1, 4, bad), BAD_COST);
        }
        due("4: refusals change nothing", seen(s), before);
        due("4: old one after refusals", s.pair(1, 4, 1), (4 * 5 + 2) % 9);
        s.drop();
        due("4: a dropped table", s.pair(1, 4, 1), BAD_TABLE);
    }

    /** One pair is allowed: the values must be pair % 3 for x and pair / 3 for y. */
    private static void pairOver(int x, int y) {
        for (int only = 0; only < 9; only++) {
            WeightedNetwork n = new WeightedNetwork();
            n.table(x, y);
            for (int pair = 0; pair < 9; pair++) {
                n.pair(0, pair, pair == only ? 3 : 20);
            }
            String what = "4: table(" + x + ", " + y + "), pair " + only;
            due(what + ": value of x", n.value(x), only % 3);
            due(what + ": value of y", n.value(y), only / 3);
            due(what + ": least", n.least(), 3);
            due(what + ": allowed", n.allowed(), 81);
        }
    }

    private static void promise5Drop() {
        WeightedNetwork n = new WeightedNetwork();
        due("5: none", n.drop(), BAD_TABLE);
        for (int table = 0; table < 8; table++) {
            n.table(table % 6, (table + 1) % 6);
            for (int pair = 0; pair < 9; pair++) {
                n.pair(table, pair, 1 + table);
            }
        }
        int sum = 36;
        for (int left = 7; left >= 0; left--) {
            sum -= left + 1;
            due("5: left", n.drop(), left);
            due("5: the last one is out", n.least(), sum);
        }
        due("5: none again", n.drop(), BAD_TABLE);
        due("5: none again", n.drop(), BAD_TABLE);
        due("5: numbers from 0 again", n.table(0, 1), 0);

        WeightedNetwork s = new WeightedNetwork();
        s.cost(0, 0, 4);
        s.table(0, 1);
        s.pair(0, 0, 20);
        s.table(2, 3);
        s.pair(1, 8, 20);
        due("5: before", s.allowed(), 729 - 81 - 81 + 9);
        s.drop();
        due("5: first table stays", s.allowed(), 729 - 81);
        due("5: its costs stay", s.pair(0, 0, 20), 20);
        s.drop();
        due("5: no table", s.allowed(), 729);
        due("5: values' costs stay", s.cost(0, 0, 4), 4);
    }

    private static void promise6Least() {
        WeightedNetwork n = new WeightedNetwork();
        for (int variable = 0; variable < 6; variable++) {
            for (int value = 0; value < 3; value++) {
                n.cost(variable, value, 19);
            }
        }
        for (int table = 0; table < 8; table++) {
            n.table(table % 6, (table + 2) % 6);
            for (int pair = 0; pair < 9; pair++) {
                n.pair(table, pair, 19);
            }
        }
        due("6: the greatest sum", n.least(), 14 * 19);
        n.pair(7, 0, 18);
        due("6: one less", n.least(), 14 * 19 - 1);

        WeightedNetwork f = new WeightedNetwork();
        f.cost(2, 0, 20);
        f.cost(2, 1, 20);
        f.cost(2, 2, 19);
        due("6: 19 does not forbid", f.least(), 19);
        f.cost(2, 2, 20);
        due("6: none is allowed", f.least(), NONE);
        f.cost(2, 1, 7);
        due("6: allowed again", f.least(), 7);
        f.table(5, 4);
        for (int pair = 0; pair < 9; pair++) {
            f.pair(0, pair, 20);
        }
        due("6: a table forbids", f.least(), NONE);
        f.pair(0, 5, 10);
        due("6: over 20 without a 20", f.least(), 17);
        f.cost(2, 1, 10);
        due("6: a sum of 20 is allowed", f.least(), 20);
        f.pair(0, 5, 19);
        due("6: a sum over 20 is allowed", f.least(), 29);
    }

    private static void promise7Value() {
        WeightedNetwork n = new WeightedNetwork();
        int[] best = {2, 0, 1, 1, 2, 0};
        for (int variable = 0; variable < 6; variable++) {
            for (int value = 0; value < 3; value++) {
                n.cost(variable, value, value == best[variable] ? 2 : 3);
            }
        }
        for (int variable = 0; variable < 6; variable++) {
            due("7: value", n.value(variable), best[variable]);
        }
        for (int bad : NO_VARIABLES) {
            due("7: variable " + bad, n.value(bad), BAD_VARIABLE);
        }
        firstOfTies();
        forbidAll(n, 4);
        for (int variable = 0; variable < 6; variable++) {
            due("7: none is allowed", n.value(variable), NONE);
        }
        for (int bad : NO_VARIABLES) {
            due("7: tested first", n.value(bad), BAD_VARIABLE);
        }
    }

    /** x and y must differ: the first assignment gives 0 to the one of the lower number. */
    private static void firstOfTies() {
        for (int x = 0; x < 6; x++) {
            for (int y = 0; y < 6; y++) {
                if (x == y) {
                    continue;
                }
                WeightedNetwork n = new WeightedNetwork();
                n.table(x, y);
                n.pair(0, 0, 1);
                n.pair(0, 4, 20);
                n.pair(0, 8, 20);
                due("7: first of ties, x", n.value(x), x < y ? 0 : 1);
                due("7: first of ties, y", n.value(y), x < y ? 1 : 0);
                n.pair(0, 0, 0);
                due("7: first of more ties", n.value(x) + n.value(y), 0);
            }
        }
    }

    private static void promise8LeastWith() {
        WeightedNetwork n = new WeightedNetwork();
        for (int variable = 0; variable < 6; variable++) {
            for (int value = 0; value < 3; value++) {
                n.cost(variable, value, variable + 1 + 4 * value);
            }
        }
        for (int variable = 0; variable < 6; variable++) {
            for (int value = 0; value < 3; value++) {
                due("8: leastWith", n.leastWith(variable, value), 21 + 4 * value);
            }
        }
        n.cost(3, 1, 20);
        due("8: forbidden value", n.leastWith(3, 1), NONE);
        due("8: other value", n.leastWith(3, 2), 29);
        due("8: other variable", n.leastWith(2, 1), 25);
        n.table(0, 3);
        n.pair(0, 1, 20);
        n.pair(0, 7, 20);
        due("8: forbidden by a table and a value", n.leastWith(0, 1), NONE);
        n.pair(0, 7, 3);
        due("8: only with 3 at 2", n.leastWith(0, 1), 21 + 4 + 8 + 3);
        for (int bad : NO_VARIABLES) {
            due("8: variable " + bad, n.leastWith(bad, 0), BAD_VARIABLE);
        }
        for (int bad : NO_VALUES) {
            due("8: value " + bad, n.leastWith(0, bad), BAD_VALUE);
            due("8: value " + bad, n.leastWith(5, bad), BAD_VALUE);
        }
        forbidAll(n, 5);
        due("8: none is allowed", n.leastWith(0, 0), NONE);
        due("8: none, bad variable", n.leastWith(6, 0), BAD_VARIABLE);
        due("8: none, bad value", n.leastWith(0, 3), BAD_VALUE);
    }

    private static void promise9Ties() {
        WeightedNetwork n = new WeightedNetwork();
        int want = 729;
        for (int variable = 0; variable < 6; variable++) {
            n.cost(variable, variable % 3, 2);
            want = want / 3 * 2;
            due("9: two of three", n.ties(), want);
        }
        for (int variable = 0; variable < 6; variable++) {
            n.cost(variable, (variable + 1) % 3, 20);
            want = want / 2;
            due("9: one of three", n.ties(), want);
        }
        n.cost(0, 2, 2);
        due("9: a tie at a higher cost", n.ties(), 2);
        forbidAll(n, 1);
        due("9: none is allowed", n.ties(), 0);
    }

    private static void promise10Allowed() {
        WeightedNetwork n = new WeightedNetwork();
        n.cost(0, 0, 20);
        due("10: one value forbidden", n.allowed(), 486);
        n.cost(5, 2, 20);
        due("10: two values forbidden", n.allowed(), 324);
        n.cost(1, 1, 19);
        due("10: 19 does not forbid", n.allowed(), 324);
        n.table(0, 5);
        n.pair(0, 0, 20);
        due("10: a pair that was not allowed", n.allowed(), 324);
        n.pair(0, 1, 20);
        due("10: a pair", n.allowed(), 243);
        n.table(0, 5);
        n.pair(1, 1, 20);
        due("10: the same pair twice", n.allowed(), 243);
        n.pair(0, 1, 0);
        due("10: one of two tables forbids", n.allowed(), 243);
        n.pair(1, 1, 10);
        due("10: none forbids", n.allowed(), 324);
        n.pair(0, 1, 10);
        due("10: two costs of 10 do not forbid", n.allowed(), 324);
        forbidAll(n, 3);
        due("10: none is allowed", n.allowed(), 0);
    }

    private static void promise11UpTo() {
        WeightedNetwork n = new WeightedNetwork();
        n.cost(0, 1, 1);
        n.cost(0, 2, 2);
        n.cost(1, 1, 3);
        n.cost(1, 2, 6);
        for (int bound = 0; bound <= 8; bound++) {
            due("11: upTo(" + bound + ")", n.upTo(bound), 81 * (bound + 1));
        }
        due("11: above all", n.upTo(9), 729);
        due("11: far above all", n.upTo(Integer.MAX_VALUE), 729);
        due("11: below all", n.upTo(-1), 0);
        n.cost(1, 2, 20);
        // A bound at or above any mark for 'not allowed' must not count what is not allowed.
        for (int bound : new int[] {-7, -6, -5, -1, Integer.MIN_VALUE}) {
            due("11: upTo(" + bound + ")", n.upTo(bound), 0);
        }
        for (int bound : new int[] {5, 20, 22, 1000, Integer.MAX_VALUE}) {
            due("11: the forbidden are not counted", n.upTo(bound), 486);
        }
        due("11: still by cost", n.upTo(4), 405);
        forbidAll(n, 2);
        for (int bound : new int[] {-6, 0, 120, Integer.MAX_VALUE}) {
            due("11: none is allowed", n.upTo(bound), 0);
        }
    }

    private static void promise12CanAgree() {
        for (int x = 0; x < 6; x++) {
            for (int y = 0; y < 6; y++) {
                if (x != y) {
                    canAgreeOver(x, y);
                }
            }
        }
        WeightedNetwork n = new WeightedNetwork();
        for (int variable = 0; variable < 6; variable++) {
            due("12: with itself", n.canAgree(variable, variable), true);
            for (int bad : NO_VARIABLES) {
                due("12: b " + bad, n.canAgree(variable, bad), false);
                due("12: a " + bad, n.canAgree(bad, variable), false);
            }
        }
        for (int bad : NO_VARIABLES) {
            due("12: both " + bad, n.canAgree(bad, bad), false);
        }
        forbidAll(n, 0);
        due("12: none is allowed", n.canAgree(1, 2), false);
        due("12: none is allowed, with itself", n.canAgree(1, 1), false);
    }

    private static void canAgreeOver(int x, int y) {
        WeightedNetwork n = new WeightedNetwork();
        n.table(x, y);
        due("12: all tie", n.canAgree(x, y), true);
        n.pair(0, 0, 1);
        n.pair(0, 4, 1);
        due("12: at 2 alone", n.canAgree(x, y), true);
        n.pair(0, 8, 1);
        due("12: at no least cost", n.canAgree(x, y), false);
        due("12: the other way round", n.canAgree(y, x), false);
        due("12: with itself", n.canAgree(x, x), true);
        for (int other = 0; other < 6; other++) {
            if (other != x && other != y) {
                due("12: a third", n.canAgree(x, other) && n.canAgree(other, y), true);
            }
        }
        n.pair(0, 8, 20);
        n.pair(0, 4, 20);
        n.pair(0, 0, 0);
        due("12: at 0 alone", n.canAgree(x, y), true);
        n.pair(0, 0, 20);
        n.pair(0, 4, 0);
        due("12: at 1 alone", n.canAgree(y, x), true);
    }

    private static void promise13OrderAndLimits() {
        WeightedNetwork n = new WeightedNetwork();
        due("13: cost, all bad", n.cost(6, 3, 21), BAD_VARIABLE);
        due("13: cost, variable and value", n.cost(-1, -1, 0), BAD_VARIABLE);
        due("13: cost, variable and cost", n.cost(-1, 0, -1), BAD_VARIABLE);
        due("13: cost, value and cost", n.cost(0, 3, 21), BAD_VALUE);
        due("13: pair, all bad", n.pair(0, 9, 21), BAD_TABLE);
        due("13: pair, table and pair", n.pair(0, 9, 0), BAD_TABLE);
        due("13: pair, table and cost", n.pair(0, 0, 21), BAD_TABLE);
        due("13: leastWith, all bad", n.leastWith(6, 3), BAD_VARIABLE);
        for (int table = 0; table < 8; table++) {
            n.table(0, 1);
        }
        due("13: pair, pair and cost", n.pair(7, 9, 21), BAD_VALUE);
        due("13: table, x when full", n.table(6, 1), BAD_VARIABLE);
        due("13: table, y when full", n.table(1, -1), BAD_VARIABLE);
        due("13: table, x == y when full", n.table(3, 3), BAD_VARIABLE);
        due("13: table, full", n.table(3, 4), FULL);
        due("13: pair, table 8 of eight", n.pair(8, 0, 0), BAD_TABLE);
        forbidAll(n, 0);
        due("13: value, bad before none", n.value(6), BAD_VARIABLE);
        due("13: leastWith, bad variable before none", n.leastWith(6, 3), BAD_VARIABLE);
        due("13: leastWith, bad value before none", n.leastWith(0, 3), BAD_VALUE);

        // The 512 calls that an object must stand.
        WeightedNetwork m = new WeightedNetwork();
        for (int call = 0; call < 511; call++) {
            m.cost(0, 0, call % 20);
        }
        due("13: the 512th call", m.cost(0, 0, 0), 510 % 20);
    }

    private static void queriesChangeNothing() {
        WeightedNetwork n = sample();
        List<Integer> first = seen(n);
        List<Integer> second = seen(n);
        due("queries, asked again", second, first);
        due("queries, beside a like object", first, seen(sample()));
        due("queries, a value's cost", n.cost(3, 1, 20), 20);
        due("queries, a pair's cost", n.pair(1, 3, 20), 20);
        due("queries, the tables", n.drop(), 1);
    }
}
