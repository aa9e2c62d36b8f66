import java.util.Arrays;

/**
 * The document's words taken literally: lists every alignment and scores it by looking for its
 * gaps. It shares no idea with the program, so that both are not wrong in the same way.
 */
final class Reference {
    private final int[] upper;
    private final int[] lower;
    private final int[] rules;

    private final int[] columns = new int[20];
    int best;
    int ways;
    int[] first;
    boolean[][] paired;

    /** rules: the gains of equal and unequal letters, the costs for opening and lengthening. */
    Reference(int[] upper, int[] lower, int[] rules) {
        this.upper = upper;
        this.lower = lower;
        this.rules = rules;
        this.best = Integer.MIN_VALUE;
        this.paired = new boolean[upper.length][lower.length];
        list(0, 0, 0);
    }

    // Smaller sorts are tried first, so alignments come in the document's order.
    private void list(int i, int j, int length) {
        if (i == upper.length && j == lower.length) {
            take(length);
            return;
        }
        if (i < upper.length && j < lower.length) {
            columns[length] = 0;
            list(i + 1, j + 1, length + 1);
        }
        if (i < upper.length) {
            columns[length] = 1;
            list(i + 1, j, length + 1);
        }
        if (j < lower.length) {
            columns[length] = 2;
            list(i, j + 1, length + 1);
        }
    }

    private void take(int length) {
        int score = score(length);
        if (score < best) {
            return;
        }
        if (score > best) {
            best = score;
            ways = 0;
            first = Arrays.copyOf(columns, length);
            paired = new boolean[upper.length][lower.length];
        }
        ways++;
        markPairs(length);
    }

    private int score(int length) {
        int score = 0;
        int i = 0;
        int j = 0;
        int c = 0;
        while (c < length) {
            if (columns[c] == 0) {
                score += upper[i] == lower[j] ? rules[0] : rules[1];
                i++;
                j++;
                c++;
                continue;
            }
            int end = c;
            while (end < length && columns[end] == columns[c]) {
                end++;
            }
            int gap = end - c;
            score -= rules[2] + gap * rules[3];
            if (columns[c] == 1) {
                i += gap;
            } else {
                j += gap;
            }
            c = end;
        }
        return score;
    }

    private void markPairs(int length) {
        int i = 0;
        int j = 0;
        for (int c = 0; c < length; c++) {
            if (columns[c] == 0) {
                paired[i][j] = true;
            }
            i += columns[c] == 2 ? 0 : 1;
            j += columns[c] == 1 ? 0 : 1;
        }
    }

    private static int bestOfParts(int[] upper, int fromI, int toI, int[] lower, int fromJ, int toJ, int[] rules) {
        int[] upperPart = Arrays.copyOfRange(upper, fromI, toI);
        int[] lowerPart = Arrays.copyOfRange(lower, fromJ, toJ);
        return new Reference(upperPart, lowerPart, rules).best;
    }

    static int local(int[] upper, int[] lower, int[] rules) {
        int greatest = Integer.MIN_VALUE;
        for (int fromI = 0; fromI <= upper.length; fromI++) {
            for (int toI = fromI; toI <= upper.length; toI++) {
                for (int fromJ = 0; fromJ <= lower.length; fromJ++) {
                    for (int toJ = fromJ; toJ <= lower.length; toJ++) {
                        greatest = Math.max(greatest, bestOfParts(upper, fromI, toI, lower, fromJ, toJ, rules));
                    }
                }
            }
        }
        return greatest;
    }

    static int fitted(int[] upper, int[] lower, int[] rules) {
        int greatest = Integer.MIN_VALUE;
        for (int fromJ = 0; fromJ <= lower.length; fromJ++) {
            for (int toJ = fromJ; toJ <= lower.length; toJ++) {
                greatest = Math.max(greatest, bestOfParts(upper, 0, upper.length, lower, fromJ, toJ, rules));
            }
        }
        return greatest;
    }

    static int overlap(int[] upper, int[] lower, int[] rules) {
        int greatest = Integer.MIN_VALUE;
        for (int fromI = 0; fromI <= upper.length; fromI++) {
            for (int toJ = 0; toJ <= lower.length; toJ++) {
                greatest = Math.max(greatest, bestOfParts(upper, fromI, upper.length, lower, 0, toJ, rules));
            }
        }
        return greatest;
    }
}
