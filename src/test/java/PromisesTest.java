/** Promise by promise: ordinary inputs, the edges that the document names, and wrong inputs. */
public final class PromisesTest {
    private static final int BAD = -1000;
    private static final int FULL = -1001;
    private static final int LEAST = Integer.MIN_VALUE;
    private static final int MOST = Integer.MAX_VALUE;

    private static final Checks checks = new Checks();

    public static void main(String[] args) {
        newObject();
        type();
        wipe();
        rules();
        rulesRefused();
        best();
        ways();
        column();
        columns();
        local();
        fitted();
        overlap();
        paired();
        objectsAreApart();
        checks.end();
    }

    private static void columnsAre(String title, AffineAligner x, String sorts) {
        checks.due(title + ": columns()", x.columns(), sorts.length());
        for (int k = 0; k < sorts.length(); k++) {
            checks.due(title + ": column(" + k + ")", x.column(k), sorts.charAt(k) - '0');
        }
        checks.due(title + ": column after the last", x.column(sorts.length()), BAD);
    }

    private static void newObject() {
        AffineAligner x = new AffineAligner();
        checks.due("1: upper is empty", x.wipe(0), 0);
        checks.due("1: lower is empty", x.wipe(1), 0);
        checks.due("1: equal letters gain 2", Aligners.of("3", "3").best(), 2);
        checks.due("1: unequal letters gain -1", Aligners.of("3", "1").best(), -1);
        checks.due("1: opening 2 and lengthening 1", Aligners.of("0", "").best(), -3);
        checks.due("1: lengthening 1", Aligners.of("000", "").best(), -5);
    }

    private static void type() {
        AffineAligner x = new AffineAligner();
        for (int k = 1; k <= 10; k++) {
            checks.due("2: upper", x.type(0, k % 4), k);
        }
        checks.due("2: lower is another", x.type(1, 3), 1);
        checks.due("2: full", x.type(0, 0), FULL);
        checks.due("2: bad letter before full", x.type(0, 4), BAD);
        checks.due("2: bad letter before full", x.type(0, -1), BAD);
        checks.due("2: bad which", x.type(2, 0), BAD);
        checks.due("2: bad which", x.type(-1, 0), BAD);
        checks.due("2: bad which", x.type(LEAST, 0), BAD);
        checks.due("2: bad which", x.type(MOST, 0), BAD);
        checks.due("2: bad letter", x.type(1, 4), BAD);
        checks.due("2: bad letter", x.type(1, -1), BAD);
        checks.due("2: bad letter", x.type(1, LEAST), BAD);
        checks.due("2: bad letter", x.type(1, MOST), BAD);
        for (int k = 2; k <= 10; k++) {
            checks.due("2: nothing bad was added to lower", x.type(1, 0), k);
        }
        checks.due("2: lower full", x.type(1, 3), FULL);
        checks.due("2: still full", x.wipe(0), 10);
        checks.due("2: still full", x.wipe(1), 10);
        checks.due("2: at the end", Aligners.of("0123", "0123").best(), 8);
        checks.due("2: not at the beginning", Aligners.of("012", "210").best() < 6, true);
    }

    private static void wipe() {
        AffineAligner x = Aligners.of("0123", "01");
        checks.due("3: bad", x.wipe(2), BAD);
        checks.due("3: bad", x.wipe(-1), BAD);
        checks.due("3: bad", x.wipe(LEAST), BAD);
        checks.due("3: bad", x.wipe(MOST), BAD);
        checks.due("3: upper had 4", x.wipe(0), 4);
        checks.due("3: upper is empty", x.best(), -4);
        checks.due("3: upper is empty", x.wipe(0), 0);
        checks.due("3: begins again", x.type(0, 0), 1);
        checks.due("3: with the new letter", x.paired(0, 0), true);
        checks.due("3: old letters are gone", x.best(), -1);
        checks.due("3: lower had 2", x.wipe(1), 2);
        checks.due("3: upper keeps its letter", x.best(), -3);
        AffineAligner ruled = Aligners.of("0", "0", 7, -7, 5, 3);
        ruled.wipe(0);
        checks.due("3: rules stay", ruled.best(), -8);
    }

    private static void rules() {
        checks.due("4: equal", Aligners.of("0", "0", 9, -9, 9, 9).best(), 9);
        checks.due("4: equal", Aligners.of("0", "0", -9, 9, 9, 9).best(), -9);
        checks.due("4: unequal", Aligners.of("0", "1", -9, 9, 0, 0).best(), 9);
        checks.due("4: unequal", Aligners.of("0", "1", 9, -9, 9, 9).best(), -9);
        checks.due("4: opening", Aligners.of("00", "", 0, 0, 9, 0).best(), -9);
        checks.due("4: lengthening", Aligners.of("00", "", 0, 0, 0, 9).best(), -18);
        checks.due("4: both costs", Aligners.of("", "00", 0, 0, 4, 3).best(), -10);
        AffineAligner x = Aligners.of("00", "0", 1, 0, 1, 1);
        checks.due("4: in range", x.rules(5, 0, 0, 1), true);
        checks.due("4: newer rules", x.best(), 4);
    }

    private static void rulesRefused() {
        int[][] wrong = {
            {10, 0, 0, 0}, {-10, 0, 0, 0}, {LEAST, 0, 0, 0}, {MOST, 0, 0, 0},
            {0, 10, 0, 0}, {0, -10, 0, 0}, {0, LEAST, 0, 0}, {0, MOST, 0, 0},
            {0, 0, 10, 0}, {0, 0, -1, 0}, {0, 0, LEAST, 0}, {0, 0, MOST, 0},
            {0, 0, 0, 10}, {0, 0, 0, -1}, {0, 0, 0, LEAST}, {0, 0, 0, MOST},
        };
        for (int[] r : wrong) {
            AffineAligner x = Aligners.of("01", "0", 7, -6, 3, 2);
            checks.due("4: refused", x.rules(r[0], r[1], r[2], r[3]), false);
            checks.due("4: refused rules change nothing", x.best(), 2);
            x.wipe(0);
            x.type(0, 1);
            checks.due("4: refused rules change nothing", x.best(), -6);
        }
    }

    private static void best() {
        checks.due("5: empty", new AffineAligner().best(), 0);
        checks.due("5: one gap", Aligners.of("01230", "0130").best(), 5);
        checks.due("5: ends count", Aligners.of("3330", "0").best(), -3);
        checks.due("5: one long gap beats two", Aligners.of("0101", "01", 2, -9, 9, 0).best(), -5);
        checks.due("5: neighbouring gaps of two sorts open twice", Aligners.of("0", "1", 0, -9, 2, 1).best(), -6);
        checks.due("5: greatest of all", Aligners.of("0000000000", "0000000000", 9, 0, 0, 0).best(), 90);
        checks.due("5: least for full ones", Aligners.of("0000000000", "1111111111", -9, -9, 9, 9).best(), -90);
    }

    private static void ways() {
        checks.due("6: empty", new AffineAligner().ways(), 1);
        checks.due("6: one gap alone", Aligners.of("0123012301", "").ways(), 1);
        checks.due("6: the gap stands in one of three places", Aligners.of("000", "00").ways(), 3);
        checks.due("6: all", Aligners.of("000", "22", 0, 0, 0, 0).ways(), 25);
        checks.due("6: neighbouring gaps in both orders", Aligners.of("0", "1", 0, -9, 2, 1).ways(), 2);
        checks.due("6: all of full ones", Aligners.of("0000000000", "0000000000", 0, 0, 0, 0).ways(), 8097453);
        checks.due("6: all with no pair", Aligners.of("0000000000", "0000000000", -1, 0, 0, 0).ways(), 184756);
    }

    private static void column() {
        columnsAre("7: empty", new AffineAligner(), "");
        columnsAre("7: one gap", Aligners.of("01230", "0130"), "00100");
        columnsAre("7: pairs come first", Aligners.of("000", "00"), "001");
        columnsAre("7: pairs come first", Aligners.of("00", "000"), "002");
        columnsAre("7: upper alone before lower alone", Aligners.of("01", "23", 0, -9, 0, 0), "1122");
        columnsAre("7: upper empty", Aligners.of("", "012"), "222");
        columnsAre("7: lower empty", Aligners.of("012", ""), "111");
        columnsAre("7: the first column decides", Aligners.of("000", "22", 0, 0, 0, 0), "001");
        columnsAre("7: longest", Aligners.of("0000000000", "1111111111", 0, -9, 0, 0), "11111111112222222222");
        AffineAligner x = Aligners.of("01", "01");
        checks.due("7: bad", x.column(-1), BAD);
        checks.due("7: bad", x.column(2), BAD);
        checks.due("7: bad", x.column(20), BAD);
        checks.due("7: bad", x.column(LEAST), BAD);
        checks.due("7: bad", x.column(MOST), BAD);
    }

    private static void columns() {
        checks.due("8: empty", new AffineAligner().columns(), 0);
        checks.due("8: pairs alone", Aligners.of("0123", "0123").columns(), 4);
        checks.due("8: one empty", Aligners.of("", "0123").columns(), 4);
        checks.due("8: gaps on both sides", Aligners.of("0012210331", "2210031120").columns(), 13);
        checks.due("8: gaps alone", Aligners.of("0000000000", "1111111111", 0, -9, 0, 0).columns(), 20);
    }

    private static void local() {
        checks.due("9: empty", new AffineAligner().local(), 0);
        checks.due("9: one empty", Aligners.of("0123", "").local(), 0);
        checks.due("9: two empty parts", Aligners.of("0", "1").local(), 0);
        checks.due("9: within both", Aligners.of("3330123", "1012222").local(), 6);
        checks.due("9: a gap within", Aligners.of("30123012", "1012012").local(), 9);
        checks.due("9: unequal letters may gain", Aligners.of("00", "11", -5, 4, 9, 9).local(), 8);
        checks.due("9: never below 0", Aligners.of("0000", "0000", -9, -9, 0, 0).local(), 0);
        checks.due("9: full", Aligners.of("0123012301", "0123012301", 9, 0, 0, 0).local(), 90);
    }

    private static void fitted() {
        checks.due("10: empty", new AffineAligner().fitted(), 0);
        checks.due("10: upper empty", Aligners.of("", "0123").fitted(), 0);
        checks.due("10: lower empty", Aligners.of("000", "").fitted(), -5);
        checks.due("10: within lower", Aligners.of("01", "3301333").fitted(), 4);
        checks.due("10: upper whole", Aligners.of("3301333", "01").fitted(), -5);
        checks.due("10: an empty part of lower", Aligners.of("0", "1", 0, -9, 1, 1).fitted(), -2);
        checks.due("10: full", Aligners.of("0123012301", "0123012301", 9, 0, 0, 0).fitted(), 90);
    }

    private static void overlap() {
        checks.due("11: empty", new AffineAligner().overlap(), 0);
        checks.due("11: upper empty", Aligners.of("", "0123").overlap(), 0);
        checks.due("11: lower empty", Aligners.of("0123", "").overlap(), 0);
        checks.due("11: end of upper, beginning of lower", Aligners.of("333012", "012111").overlap(), 6);
        checks.due("11: not the other way", Aligners.of("012111", "333012").overlap(), 0);
        checks.due("11: two empty parts", Aligners.of("0", "1").overlap(), 0);
        checks.due("11: an unequal end", Aligners.of("3012011", "0120133").overlap(), 9);
        checks.due("11: full", Aligners.of("0123012301", "0123012301", 9, 0, 0, 0).overlap(), 90);
    }

    private static void paired() {
        AffineAligner x = Aligners.of("000", "00");
        boolean[][] due = {{true, false}, {true, true}, {false, true}};
        for (int i = 0; i < 3; i++) {
            for (int j = 0; j < 2; j++) {
                checks.due("12: (" + i + ", " + j + ")", x.paired(i, j), due[i][j]);
            }
        }
        int[] none = {-1, 10, LEAST, MOST, -1000};
        for (int k : none) {
            checks.due("12: no such upper letter", x.paired(k, 0), false);
            checks.due("12: no such lower letter", x.paired(0, k), false);
            checks.due("12: neither", x.paired(k, k), false);
        }
        checks.due("12: upper ends before", x.paired(3, 1), false);
        checks.due("12: lower ends before", x.paired(2, 2), false);
        checks.due("12: empty", new AffineAligner().paired(0, 0), false);
        checks.due("12: unequal letters too", Aligners.of("0", "1").paired(0, 0), true);
        checks.due("12: no pair at all", Aligners.of("0", "1", 0, -9, 0, 0).paired(0, 0), false);
        checks.due("12: last letters of full ones", Aligners.of("0123012301", "0123012301").paired(9, 9), true);
        x.wipe(0);
        checks.due("12: wiped letters are none", x.paired(0, 0), false);
    }

    private static void objectsAreApart() {
        AffineAligner one = Aligners.of("01", "01");
        AffineAligner other = Aligners.of("0", "3", 0, 5, 0, 0);
        checks.due("objects are apart", one.best(), 4);
        checks.due("objects are apart", other.best(), 5);
    }
}
