import java.util.Arrays;

/** Promises 5 to 12 for sequences up to ten letters, too long for listing, against whole gaps at a time. */
public final class LongSequencesTest {
    private static final Checks checks = new Checks();

    public static void main(String[] args) {
        Numbers numbers = new Numbers(3);
        for (int round = 0; round < 400; round++) {
            int kinds = numbers.from(1, 4);
            int[] upper = numbers.letters(numbers.from(6, 10), kinds);
            int[] lower = numbers.letters(numbers.from(6, 10), kinds);
            compare(upper, lower, numbers.rules());
        }
        for (int round = 0; round < 100; round++) {
            compare(numbers.letters(10, 4), numbers.letters(10, 4), numbers.rules());
        }
        checks.end();
    }

    private static void compare(int[] upper, int[] lower, int[] rules) {
        AffineAligner x = new AffineAligner();
        for (int letter : upper) {
            x.type(0, letter);
        }
        for (int letter : lower) {
            x.type(1, letter);
        }
        x.rules(rules[0], rules[1], rules[2], rules[3]);
        checks.sentence(Arrays.toString(upper) + Arrays.toString(lower) + Arrays.toString(rules));
        GapTable[][] tables = new GapTable[upper.length + 1][lower.length + 1];
        for (int i = 0; i <= upper.length; i++) {
            for (int j = 0; j <= lower.length; j++) {
                tables[i][j] = new GapTable(upper, i, lower, j, rules);
            }
        }
        compareWhole(x, tables[0][0].upTo(upper.length, lower.length));
        comparePairs(x, upper, lower, rules, tables);
        compareParts(x, upper.length, lower.length, tables);
    }

    private static void compareWhole(AffineAligner x, GapTable.Entry due) {
        checks.due("best()", x.best(), due.best);
        checks.due("ways()", x.ways(), due.ways);
        checks.due("columns()", x.columns(), due.first.length());
        for (int k = 0; k < due.first.length(); k++) {
            checks.due("column(" + k + ")", x.column(k), due.first.charAt(k) - '0');
        }
        checks.due("column after the last", x.column(due.first.length()), AffineAligner.BAD);
    }

    // A pair ends every gap, so what stands before it and what stands after it are best each by itself.
    private static void comparePairs(AffineAligner x, int[] upper, int[] lower, int[] rules, GapTable[][] tables) {
        int best = tables[0][0].upTo(upper.length, lower.length).best;
        for (int i = 0; i < upper.length; i++) {
            for (int j = 0; j < lower.length; j++) {
                int before = tables[0][0].upTo(i, j).best;
                int gain = upper[i] == lower[j] ? rules[0] : rules[1];
                int after = tables[i + 1][j + 1].upTo(upper.length, lower.length).best;
                checks.due("paired(" + i + ", " + j + ")", x.paired(i, j), before + gain + after == best);
            }
        }
    }

    private static void compareParts(AffineAligner x, int upperEnd, int lowerEnd, GapTable[][] tables) {
        int local = Integer.MIN_VALUE;
        int fitted = Integer.MIN_VALUE;
        int overlap = Integer.MIN_VALUE;
        for (int fromI = 0; fromI <= upperEnd; fromI++) {
            for (int fromJ = 0; fromJ <= lowerEnd; fromJ++) {
                for (int toI = fromI; toI <= upperEnd; toI++) {
                    for (int toJ = fromJ; toJ <= lowerEnd; toJ++) {
                        int score = tables[fromI][fromJ].upTo(toI, toJ).best;
                        local = Math.max(local, score);
                        fitted = fromI == 0 && toI == upperEnd ? Math.max(fitted, score) : fitted;
                        overlap = toI == upperEnd && fromJ == 0 ? Math.max(overlap, score) : overlap;
                    }
                }
            }
        }
        checks.due("local()", x.local(), local);
        checks.due("fitted()", x.fitted(), fitted);
        checks.due("overlap()", x.overlap(), overlap);
    }
}
