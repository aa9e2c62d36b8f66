import java.util.Arrays;

/** Runs of 512 mixed calls, wrong ones among them, against a plain model of the object's state. */
public final class CallRunsTest {
    private static final int[] ODD = {Integer.MIN_VALUE, -1001, -1000, -10, -1, 2, 4, 10, 11, 20, 363, Integer.MAX_VALUE};

    private static final Checks checks = new Checks();
    private static final Numbers numbers = new Numbers(2);

    private static AffineAligner x;
    private static int[][] sequences;
    private static int[] rules;
    private static Reference reference;

    public static void main(String[] args) {
        for (int run = 0; run < 60; run++) {
            x = new AffineAligner();
            sequences = new int[][] {{}, {}};
            rules = new int[] {2, -1, 2, 1};
            reference = null;
            // The longer one sequence may grow, the shorter the other: the listing stays short.
            int upperMost = run % 3 == 0 ? 10 : run % 3 == 1 ? 3 : 5;
            int lowerMost = run % 3 == 0 ? 3 : run % 3 == 1 ? 10 : 5;
            for (int call = 0; call < 512; call++) {
                oneCall(upperMost, lowerMost);
            }
        }
        checks.end();
    }

    private static void oneCall(int upperMost, int lowerMost) {
        int sort = numbers.from(0, 15);
        if (sort <= 4) {
            int which = number(0, 1);
            boolean full = which == 0 && sequences[0].length == upperMost && upperMost < 10
                    || which == 1 && sequences[1].length == lowerMost && lowerMost < 10;
            type(which, full ? 4 : number(0, 3));
        } else if (sort == 5 && numbers.from(0, 3) == 0) {
            wipe(number(0, 1));
        } else if (sort == 6) {
            int[] in = numbers.rules();
            int wrong = numbers.from(0, 7);
            if (wrong < 4) {
                in[wrong] = new int[] {-10, 10, Integer.MIN_VALUE, Integer.MAX_VALUE}[numbers.from(0, 3)];
            }
            rules(in);
        } else {
            ask(sort);
        }
    }

    private static int number(int least, int greatest) {
        return numbers.from(0, 9) == 0 ? ODD[numbers.from(0, ODD.length - 1)] : numbers.from(least, greatest);
    }

    private static void type(int which, int letter) {
        int want;
        if (which < 0 || which > 1 || letter < 0 || letter > 3) {
            want = AffineAligner.BAD;
        } else if (sequences[which].length == 10) {
            want = AffineAligner.FULL;
        } else {
            want = sequences[which].length + 1;
            sequences[which] = Arrays.copyOf(sequences[which], want);
            sequences[which][want - 1] = letter;
            reference = null;
        }
        checks.due("type(" + which + ", " + letter + ")", x.type(which, letter), want);
    }

    private static void wipe(int which) {
        int want = AffineAligner.BAD;
        if (which == 0 || which == 1) {
            want = sequences[which].length;
            sequences[which] = new int[0];
            reference = null;
        }
        checks.due("wipe(" + which + ")", x.wipe(which), want);
    }

    private static void rules(int[] in) {
        boolean want = true;
        for (int k = 0; k < 4; k++) {
            want &= in[k] >= (k < 2 ? -9 : 0) && in[k] <= 9;
        }
        if (want) {
            rules = in;
            reference = null;
        }
        checks.due("rules" + Arrays.toString(in), x.rules(in[0], in[1], in[2], in[3]), want);
    }

    private static void ask(int sort) {
        int[] upper = sequences[0];
        int[] lower = sequences[1];
        if (reference == null) {
            reference = new Reference(upper, lower, rules);
        }
        String title = Arrays.toString(upper) + Arrays.toString(lower) + Arrays.toString(rules) + " ";
        int i = number(0, 9);
        int j = number(0, 9);
        int[] first = reference.first;
        switch (sort) {
            case 7 -> checks.due(title + "best()", x.best(), reference.best);
            case 8 -> checks.due(title + "ways()", x.ways(), reference.ways);
            case 9 -> checks.due(title + "columns()", x.columns(), first.length);
            case 10 -> checks.due(title + "local()", x.local(), Reference.local(upper, lower, rules));
            case 11 -> checks.due(title + "fitted()", x.fitted(), Reference.fitted(upper, lower, rules));
            case 12 -> checks.due(title + "overlap()", x.overlap(), Reference.overlap(upper, lower, rules));
            case 13 -> checks.due(title + "column(" + i + ")", x.column(i),
                    i < 0 || i >= first.length ? AffineAligner.BAD : first[i]);
            default -> checks.due(title + "paired(" + i + ", " + j + ")", x.paired(i, j),
                    i >= 0 && i < upper.length && j >= 0 && j < lower.length && reference.paired[i][j]);
        }
    }
}
