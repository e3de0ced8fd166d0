/**
 * What the document means by ALLOWED, COST and ORDERED. The networks here leave one assignment or two
 * allowed, so that each answer can be told from those alone. No object is used for more than 512 calls.
 */
public final class WeightedNetworkTerms {
    private static final int NONE = -6;
    private static final int ASSIGNMENTS = 729;
    // Over neighbours, over distant ones, both ways round, and twice over the same.
    private static final int[][] OVER = {{0, 1}, {1, 0}, {5, 0}, {2, 4}, {2, 4}, {3, 5}, {4, 1}, {3, 2}};

    private static String sentence = "";
    private static int wrong = 0;

    public static void main(String[] args) {
        sentence = "An assignment is ALLOWED if no cost that it meets is 20";
        for (int number = 0; number < ASSIGNMENTS; number++) {
            allowedIfItMeetsNo20(assignment(number));
        }
        sentence = "its COST is the sum of all costs that it meets";
        for (int number = 0; number < ASSIGNMENTS; number++) {
            costIsTheSum(assignment(number), number);
        }
        greatestCost();
        sentence = "ASSIGNMENTS ARE ORDERED by the value of variable 0, then 1, and so on, smaller values first";
        orderOfAllThatTie();
        for (int number = 0; number < ASSIGNMENTS; number++) {
            // The next one differs in the last variables; the others, as the step grows, in more and more.
            for (int step : new int[] {1, 5, 40, 247}) {
                int[] one = assignment(number);
                int[] other = assignment((number + step) % ASSIGNMENTS);
                firstOfTwo(one, other, 4, 4);
            }
            firstOfTwo(assignment(number), assignment((number + 100) % ASSIGNMENTS), 4, 5);
            firstOfTwo(assignment(number), assignment((number + 100) % ASSIGNMENTS), 5, 4);
        }
        System.out.println(wrong == 0 ? "the terms mean what the document says" : wrong + " answers are not as due");
        if (wrong != 0) {
            System.exit(1);
        }
    }

    private static void due(String call, Object got, Object want) {
        if (!got.equals(want)) {
            wrong++;
            if (wrong <= 20) {
                System.out.println("[" + sentence + "] " + call + " answered " + got + ", due is " + want);
            }
        }
    }

    /** Any numbering does here, as long as each of the 729 comes up once. */
    private static int[] assignment(int number) {
        int[] values = new int[6];
        int rest = number;
        for (int variable = 5; variable >= 0; variable--) {
            values[variable] = rest % 3;
            rest /= 3;
        }
        return values;
    }

    private static String text(int[] values) {
        StringBuilder all = new StringBuilder();
        for (int value : values) {
            all.append(value);
        }
        return all.toString();
    }

    private static int pairOf(int[] over, int[] values) {
        return values[over[0]] + 3 * values[over[1]];
    }

    /** Forbids the two other values of every variable. */
    private static WeightedNetwork allowing(int[] only) {
        WeightedNetwork n = new WeightedNetwork();
        for (int variable = 0; variable < 6; variable++) {
            for (int value = 0; value < 3; value++) {
                n.cost(variable, value, value == only[variable] ? 0 : 20);
            }
        }
        return n;
    }

    private static void allowedIfItMeetsNo20(int[] only) {
        WeightedNetwork n = allowing(only);
        String of = " with " + text(only) + " alone";
        due("allowed" + of, n.allowed(), 1);
        due("least" + of, n.least(), 0);
        for (int variable = 0; variable < 6; variable++) {
            due("value" + of, n.value(variable), only[variable]);
        }
        for (int table = 0; table < 8; table++) {
            n.table(OVER[table][0], OVER[table][1]);
            for (int pair = 0; pair < 9; pair++) {
                n.pair(table, pair, pair == pairOf(OVER[table], only) ? 0 : 20);
            }
        }
        due("allowed, tables forbid what it does not meet" + of, n.allowed(), 1);
        for (int variable = 0; variable < 6; variable++) {
            n.cost(variable, only[variable], 20);
            due("allowed, it meets a value's 20" + of, n.allowed(), 0);
            n.cost(variable, only[variable], 19);
            due("allowed, it meets a value's 19" + of, n.allowed(), 1);
        }
        for (int table = 0; table < 8; table++) {
            n.pair(table, pairOf(OVER[table], only), 20);
            due("allowed, it meets a pair's 20" + of, n.allowed(), 0);
            n.pair(table, pairOf(OVER[table], only), 19);
            due("allowed, it meets a pair's 19" + of, n.allowed(), 1);
        }
    }

    /** A cost that is left out, met twice or taken from another place changes the sum. */
    private static void costIsTheSum(int[] only, int number) {
        WeightedNetwork n = allowing(only);
        int sum = 0;
        for (int variable = 0; variable < 6; variable++) {
            int cost = 1 + (number + 3 * variable) % 19;
            n.cost(variable, only[variable], cost);
            sum += cost;
            due("least with values' costs", n.least(), sum);
        }
        for (int table = 0; table < 8; table++) {
            n.table(OVER[table][0], OVER[table][1]);
            due("least with a new table", n.least(), sum);
            int met = pairOf(OVER[table], only);
            for (int pair = 0; pair < 9; pair++) {
                n.pair(table, pair, (5 * table + number + 2 * pair) % 20);
            }
            sum += (5 * table + number + 2 * met) % 20;
            due("least with a table's costs", n.least(), sum);
        }
        due("upTo(the sum)", n.upTo(sum), 1);
        due("upTo(one less)", n.upTo(sum - 1), 0);
        for (int variable = 0; variable < 6; variable++) {
            for (int value = 0; value < 3; value++) {
                due("leastWith", n.leastWith(variable, value), value == only[variable] ? sum : NONE);
            }
        }
    }

    /** 14 costs are met at most; a sum of 20 or more does not forbid. */
    private static void greatestCost() {
        WeightedNetwork n = allowing(new int[] {0, 1, 2, 0, 1, 2});
        for (int variable = 0; variable < 6; variable++) {
            n.cost(variable, variable % 3, 10);
            due("least, a sum of tens", n.least(), 10 * (variable + 1));
        }
        for (int variable = 0; variable < 6; variable++) {
            n.cost(variable, variable % 3, 19);
        }
        for (int table = 0; table < 8; table++) {
            n.table(OVER[table][0], OVER[table][1]);
            for (int pair = 0; pair < 9; pair++) {
                n.pair(table, pair, 19);
            }
        }
        due("least, the greatest sum", n.least(), 266);
        due("upTo(265)", n.upTo(265), 0);
        due("upTo(266)", n.upTo(266), 1);
    }

    /** Forbids the first of all that tie, over and over: they come out in order. */
    private static void orderOfAllThatTie() {
        for (int lowest = 0; lowest < 3; lowest++) {
            WeightedNetwork n = new WeightedNetwork();
            for (int variable = 0; variable < 6; variable++) {
                for (int value = 0; value < lowest; value++) {
                    n.cost(variable, value, 20);
                }
            }
            for (int variable = 0; variable < 6; variable++) {
                due("value, smaller values first", n.value(variable), lowest);
            }
        }
        for (int x = 0; x < 6; x++) {
            for (int y = x + 1; y < 6; y++) {
                WeightedNetwork n = new WeightedNetwork();
                n.table(x, y);
                for (int place = 0; place < 9; place++) {
                    due("value of the lower variable", n.value(x), place / 3);
                    due("value of the higher variable", n.value(y), place % 3);
                    n.pair(0, place / 3 + 3 * (place % 3), 20);
                }
                due("value, all forbidden", n.value(x), NONE);
            }
        }
    }

    /** Two assignments are allowed; what differs between them is held together by tables. */
    private static void firstOfTwo(int[] one, int[] other, int costOfOne, int costOfOther) {
        WeightedNetwork n = new WeightedNetwork();
        int last = -1;
        for (int variable = 0; variable < 6; variable++) {
            for (int value = 0; value < 3; value++) {
                boolean met = value == one[variable] || value == other[variable];
                n.cost(variable, value, met ? 0 : 20);
            }
            if (one[variable] == other[variable]) {
                continue;
            }
            if (last < 0) {
                n.cost(variable, one[variable], costOfOne);
                n.cost(variable, other[variable], costOfOther);
            } else {
                holdTogether(n, new int[] {last, variable}, one, other);
            }
            last = variable;
        }
        String of = " with " + text(one) + " at " + costOfOne + ", " + text(other) + " at " + costOfOther;
        boolean tie = costOfOne == costOfOther;
        boolean oneIsFirst = tie ? text(one).compareTo(text(other)) < 0 : costOfOne < costOfOther;
        int[] first = oneIsFirst ? one : other;
        for (int variable = 0; variable < 6; variable++) {
            due("value(" + variable + ")" + of, n.value(variable), first[variable]);
        }
        due("allowed" + of, n.allowed(), 2);
        due("ties" + of, n.ties(), tie ? 2 : 1);
        due("least" + of, n.least(), costOfOne < costOfOther ? costOfOne : costOfOther);
        for (int a = 0; a < 5; a++) {
            boolean agree = first[a] == first[a + 1] || tie && (one[a] == one[a + 1] || other[a] == other[a + 1]);
            due("canAgree(" + a + ", " + (a + 1) + ")" + of, n.canAgree(a, a + 1), agree);
        }
    }

    private static void holdTogether(WeightedNetwork n, int[] over, int[] one, int[] other) {
        int table = n.table(over[0], over[1]);
        for (int pair = 0; pair < 9; pair++) {
            boolean met = pair == pairOf(over, one) || pair == pairOf(over, other);
            n.pair(table, pair, met ? 0 : 20);
        }
    }
}
