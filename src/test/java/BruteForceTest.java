import java.util.Arrays;

/** Promises 5 to 12 against a listing of all alignments. */
public final class BruteForceTest {
    private static final Checks checks = new Checks();

    public static void main(String[] args) {
        Numbers numbers = new Numbers(1);
        for (int round = 0; round < 6000; round++) {
            int kinds = numbers.from(1, 4);
            int[] upper = numbers.letters(numbers.from(0, 5), kinds);
            int[] lower = numbers.letters(numbers.from(0, 5), kinds);
            compare(upper, lower, numbers.rules());
        }
        for (int round = 0; round < 200; round++) {
            int[] longer = numbers.letters(numbers.from(6, 10), 3);
            int[] shorter = numbers.letters(numbers.from(0, 3), 3);
            compare(longer, shorter, numbers.rules());
            compare(shorter, longer, numbers.rules());
        }
        for (int round = 0; round < 40; round++) {
            int[] upper = numbers.letters(7, 3);
            int[] lower = numbers.letters(numbers.from(6, 7), 3);
            compare(upper, lower, numbers.rules());
        }
        int[] upper = {0, 0, 1, 2, 2, 1, 0, 3, 3, 1};
        int[] lower = {2, 2, 1, 0, 0, 3, 1, 1, 2, 0};
        compare(upper, lower, new int[] {1, 0, 1, 0});
        checks.end();
    }

    private static void compare(int[] upper, int[] lower, int[] rules) {
        AffineAligner x = new AffineAligner();
        for (int letter : upper) {
            x.type(0, letter);
        }
        for (int letter : lower) {
            x.type(1, letter);
        }
        x.rules(rules[0], rules[1], rules[2], rules[3]);
        String title = Arrays.toString(upper) + Arrays.toString(lower) + Arrays.toString(rules) + " ";
        compareWhole(title, x, upper, lower, new Reference(upper, lower, rules));
        checks.due(title + "local()", x.local(), Reference.local(upper, lower, rules));
        checks.due(title + "fitted()", x.fitted(), Reference.fitted(upper, lower, rules));
        checks.due(title + "overlap()", x.overlap(), Reference.overlap(upper, lower, rules));
    }

    private static void compareWhole(String title, AffineAligner x, int[] upper, int[] lower, Reference reference) {
        checks.due(title + "best()", x.best(), reference.best);
        checks.due(title + "ways()", x.ways(), reference.ways);
        int length = reference.first.length;
        checks.due(title + "columns()", x.columns(), length);
        for (int i = -1; i <= length; i++) {
            int want = i < 0 || i == length ? AffineAligner.BAD : reference.first[i];
            checks.due(title + "column(" + i + ")", x.column(i), want);
        }
        for (int i = -1; i <= upper.length; i++) {
            for (int j = -1; j <= lower.length; j++) {
                boolean letters = i >= 0 && i < upper.length && j >= 0 && j < lower.length;
                checks.due(title + "paired(" + i + ", " + j + ")", x.paired(i, j), letters && reference.paired[i][j]);
            }
        }
    }
}
