/** Alignments of two short sequences with costs for opening and for lengthening gaps. */
public final class AffineAligner {
    public static final int BAD = -1000;
    public static final int FULL = -1001;

    private static final int MOST_LETTERS = 10;
    private static final int LETTER_KINDS = 4;
    private static final int MOST_COLUMNS = 20;
    private static final int GREATEST_RULE = 9;

    private static final int BOTH = 0;
    private static final int UPPER_ALONE = 1;
    private static final int LOWER_ALONE = 2;
    private static final int SORTS = 3;

    // A state is a place in each sequence, 0 to 10, and the sort of the column before:
    // that sort decides whether a further gap column opens a gap or lengthens one.
    private static final int PLACES = 11;
    private static final int STATES = 363; // 11 places by 11 places by 3 sorts

    // 20 columns cost at most 18 each, so that no score is as low as this.
    private static final int BELOW_ALL_SCORES = -1000000;

    private final int[] upper = new int[MOST_LETTERS];
    private final int[] lower = new int[MOST_LETTERS];
    private int upperCount;
    private int lowerCount;

    private int equalGain;
    private int unequalGain;
    private int openingCost;
    private int lengtheningCost;

    // Working room: each call that reads these fills them first.
    private final int[] scores = new int[STATES];
    private final int[] counts = new int[STATES];
    private final boolean[] reached = new boolean[STATES];
    private final int[] firstColumns = new int[MOST_COLUMNS];

    public AffineAligner() {
        upperCount = 0;
        lowerCount = 0;
        equalGain = 2;
        unequalGain = -1;
        openingCost = 2;
        lengtheningCost = 1;
    }

    public int type(int which, int letter) {
        if (which < 0 || which > 1 || letter < 0 || letter >= LETTER_KINDS) {
            return BAD;
        }
        return which == 0 ? typeUpper(letter) : typeLower(letter);
    }

    public int wipe(int which) {
        int had = BAD;
        if (which == 0) {
            had = upperCount;
            upperCount = 0;
        } else if (which == 1) {
            had = lowerCount;
            lowerCount = 0;
        }
        return had;
    }

    public boolean rules(int equal, int unequal, int opening, int lengthening) {
        boolean gainsFit = isGain(equal) && isGain(unequal);
        boolean costsFit = isCost(opening) && isCost(lengthening);
        if (!gainsFit || !costsFit) {
            return false;
        }
        equalGain = equal;
        unequalGain = unequal;
        openingCost = opening;
        lengtheningCost = lengthening;
        return true;
    }

    public int best() {
        fillScores(false, false);
        return scores[state(0, 0, BOTH)];
    }

    public int ways() {
        fillScores(false, false);
        fillCounts();
        return counts[state(0, 0, BOTH)];
    }

    public int column(int i) {
        fillScores(false, false);
        int length = traceFirst();
        return i < 0 || i >= length ? BAD : firstColumns[i];
    }

    public int columns() {
        fillScores(false, false);
        return traceFirst();
    }

    public int local() {
        fillScores(true, true);
        return greatestStart(upperCount, lowerCount);
    }

    public int fitted() {
        fillScores(false, true);
        return greatestStart(0, lowerCount);
    }

    public int overlap() {
        fillScores(false, true);
        return greatestStart(upperCount, 0);
    }

    public boolean paired(int i, int j) {
        if (i < 0 || i >= upperCount || j < 0 || j >= lowerCount) {
            return false;
        }
        fillScores(false, false);
        fillReached();
        for (int last = 0; last < SORTS; last++) {
            if (reached[state(i, j, last)] && isBestMove(i, j, last, BOTH)) {
                return true;
            }
        }
        return false;
    }

    private int typeUpper(int letter) {
        if (upperCount >= MOST_LETTERS) {
            return FULL;
        }
        upper[upperCount] = letter;
        upperCount++;
        return upperCount;
    }

    private int typeLower(int letter) {
        if (lowerCount >= MOST_LETTERS) {
            return FULL;
        }
        lower[lowerCount] = letter;
        lowerCount++;
        return lowerCount;
    }

    private static boolean isGain(int number) {
        return number >= -GREATEST_RULE && number <= GREATEST_RULE;
    }

    private static boolean isCost(int number) {
        return number >= 0 && number <= GREATEST_RULE;
    }

    private static int state(int i, int j, int last) {
        return (i * PLACES + j) * SORTS + last;
    }

    private static int stateAfter(int i, int j, int sort) {
        int nextI = sort == LOWER_ALONE ? i : i + 1;
        int nextJ = sort == UPPER_ALONE ? j : j + 1;
        return (nextI * PLACES + nextJ) * SORTS + sort;
    }

    private boolean hasLetters(int i, int j, int sort) {
        boolean upperFits = sort == LOWER_ALONE || i < upperCount;
        boolean lowerFits = sort == UPPER_ALONE || j < lowerCount;
        return upperFits && lowerFits;
    }

    private int columnScore(int i, int j, int last, int sort) {
        if (sort == BOTH) {
            return upper[i] == lower[j] ? equalGain : unequalGain;
        }
        return sort == last ? -lengtheningCost : -openingCost - lengtheningCost;
    }

    private int scoreThrough(int i, int j, int last, int sort) {
        return columnScore(i, j, last, sort) + scores[stateAfter(i, j, sort)];
    }

    private boolean isBestMove(int i, int j, int last, int sort) {
        if (!hasLetters(i, j, sort)) {
            return false;
        }
        return scoreThrough(i, j, last, sort) == scores[state(i, j, last)];
    }

    /**
     * Gives each state the greatest score of the columns that may still come. From the end
     * backwards, so that the first alignment can be read off forwards, smallest sort first.
     * A sequence with a free end may be left at any place, so that a part of it is aligned.
     */
    private void fillScores(boolean upperEndFree, boolean lowerEndFree) {
        for (int i = upperCount; i >= 0; i--) {
            for (int j = lowerCount; j >= 0; j--) {
                boolean upperMayEnd = upperEndFree || i == upperCount;
                boolean lowerMayEnd = lowerEndFree || j == lowerCount;
                fillScoresAt(i, j, upperMayEnd && lowerMayEnd);
            }
        }
    }

    private void fillScoresAt(int i, int j, boolean mayEnd) {
        for (int last = 0; last < SORTS; last++) {
            int greatest = mayEnd ? 0 : BELOW_ALL_SCORES;
            for (int sort = 0; sort < SORTS; sort++) {
                if (hasLetters(i, j, sort)) {
                    int score = scoreThrough(i, j, last, sort);
                    greatest = score > greatest ? score : greatest;
                }
            }
            scores[state(i, j, last)] = greatest;
        }
    }

    /** The greatest score from a start at upper places 0 to lastI and lower places 0 to lastJ. */
    private int greatestStart(int lastI, int lastJ) {
        int greatest = BELOW_ALL_SCORES;
        for (int i = 0; i <= lastI; i++) {
            for (int j = 0; j <= lastJ; j++) {
                int score = scores[state(i, j, BOTH)];
                greatest = score > greatest ? score : greatest;
            }
        }
        return greatest;
    }

    // The greatest count, that of 10 and 10 letters with all rules 0, is 8097453: an int holds it.
    private void fillCounts() {
        for (int i = upperCount; i >= 0; i--) {
            for (int j = lowerCount; j >= 0; j--) {
                for (int last = 0; last < SORTS; last++) {
                    counts[state(i, j, last)] = countFrom(i, j, last);
                }
            }
        }
    }

    private int countFrom(int i, int j, int last) {
        if (i == upperCount && j == lowerCount) {
            return 1;
        }
        int count = 0;
        for (int sort = 0; sort < SORTS; sort++) {
            if (isBestMove(i, j, last, sort)) {
                count += counts[stateAfter(i, j, sort)];
            }
        }
        return count;
    }

    private int firstBestMove(int i, int j, int last) {
        for (int sort = 0; sort < LOWER_ALONE; sort++) {
            if (isBestMove(i, j, last, sort)) {
                return sort;
            }
        }
        return LOWER_ALONE;
    }

    /** Writes the columns of the first best alignment; answers how many they are. */
    private int traceFirst() {
        int i = 0;
        int j = 0;
        int last = BOTH;
        int length = 0;
        while (length < MOST_COLUMNS && (i < upperCount || j < lowerCount)) {
            last = firstBestMove(i, j, last);
            firstColumns[length] = last;
            length++;
            i += last == LOWER_ALONE ? 0 : 1;
            j += last == UPPER_ALONE ? 0 : 1;
        }
        return length;
    }

    /** Marks the states that some best alignment goes through. */
    private void fillReached() {
        for (int s = 0; s < STATES; s++) {
            reached[s] = false;
        }
        reached[state(0, 0, BOTH)] = true;
        for (int i = 0; i <= upperCount; i++) {
            for (int j = 0; j <= lowerCount; j++) {
                for (int last = 0; last < SORTS; last++) {
                    markMovesFrom(i, j, last);
                }
            }
        }
    }

    private void markMovesFrom(int i, int j, int last) {
        if (!reached[state(i, j, last)]) {
            return;
        }
        for (int sort = 0; sort < SORTS; sort++) {
            if (isBestMove(i, j, last, sort)) {
                reached[stateAfter(i, j, sort)] = true;
            }
        }
    }
}
