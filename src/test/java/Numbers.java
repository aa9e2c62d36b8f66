/** Numbers that look arbitrary and are the same in every run. */
final class Numbers {
    private long seed;

    Numbers(long seed) {
        this.seed = seed;
    }

    int from(int least, int greatest) {
        seed = seed * 6364136223846793005L + 1442695040888963407L;
        return least + (int) ((seed >>> 33) % (greatest - least + 1));
    }

    int[] letters(int count, int kinds) {
        int[] letters = new int[count];
        for (int k = 0; k < count; k++) {
            letters[k] = from(0, kinds - 1);
        }
        return letters;
    }

    /** Small ranges as well as the whole ones: ties between alignments are common in small ones. */
    int[] rules() {
        int reach = from(0, 3) == 0 ? 9 : from(0, 2);
        return new int[] {from(-reach, reach), from(-reach, reach), from(0, reach), from(0, reach)};
    }
}
