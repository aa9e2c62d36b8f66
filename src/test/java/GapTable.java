/**
 * A second reference, quick enough for sequences of ten letters: forwards from one pair of places,
 * whole gaps at a time. An entry is for alignments that end with a column of one sort.
 */
final class GapTable {
    private final int[] upper;
    private final int[] lower;
    private final int[] rules;
    private final int fromI;
    private final int fromJ;
    private final Entry[][][] entries;

    /** What is known of the best alignments of one part of each sequence. */
    static final class Entry {
        int best;
        long ways;
        String first;

        void add(Entry before, int more, String columns) {
            if (before.ways == 0) {
                return;
            }
            int score = before.best + more;
            if (ways == 0 || score > best) {
                best = score;
                ways = 0;
                first = null;
            }
            if (score == best) {
                ways += before.ways;
                String other = before.first + columns;
                // No alignment of two parts begins with another one of them, so the order of texts is that of alignments.
                first = first == null || other.compareTo(first) < 0 ? other : first;
            }
        }
    }

    /** rules: the gains of equal and unequal letters, the costs for opening and lengthening. */
    GapTable(int[] upper, int fromI, int[] lower, int fromJ, int[] rules) {
        this.upper = upper;
        this.fromI = fromI;
        this.lower = lower;
        this.fromJ = fromJ;
        this.rules = rules;
        entries = new Entry[upper.length + 1][lower.length + 1][];
        for (int i = fromI; i <= upper.length; i++) {
            for (int j = fromJ; j <= lower.length; j++) {
                entries[i][j] = new Entry[] {pairsLast(i, j), upperGapLast(i, j), lowerGapLast(i, j)};
            }
        }
    }

    /** The best alignments of the parts from the table's start up to places i and j. */
    Entry upTo(int i, int j) {
        Entry all = new Entry();
        for (Entry entry : entries[i][j]) {
            all.add(entry, 0, "");
        }
        return all;
    }

    private Entry pairsLast(int i, int j) {
        Entry entry = new Entry();
        if (i == fromI && j == fromJ) {
            entry.ways = 1;
            entry.first = "";
        } else if (i > fromI && j > fromJ) {
            entry.add(upTo(i - 1, j - 1), upper[i - 1] == lower[j - 1] ? rules[0] : rules[1], "0");
        }
        return entry;
    }

    // A gap is a largest run: what stands before it ends with another sort.
    private Entry upperGapLast(int i, int j) {
        Entry entry = new Entry();
        for (int gap = 1; gap <= i - fromI; gap++) {
            entry.add(entries[i - gap][j][0], -rules[2] - gap * rules[3], "1".repeat(gap));
            entry.add(entries[i - gap][j][2], -rules[2] - gap * rules[3], "1".repeat(gap));
        }
        return entry;
    }

    private Entry lowerGapLast(int i, int j) {
        Entry entry = new Entry();
        for (int gap = 1; gap <= j - fromJ; gap++) {
            entry.add(entries[i][j - gap][0], -rules[2] - gap * rules[3], "2".repeat(gap));
            entry.add(entries[i][j - gap][1], -rules[2] - gap * rules[3], "2".repeat(gap));
        }
        return entry;
    }
}
