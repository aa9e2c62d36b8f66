/** For each sentence of the document that names a boundary case, a test of its own. */
public final class BoundariesTest {
    private static final int BAD = -1000;
    private static final int FULL = -1001;
    private static final int LEAST = Integer.MIN_VALUE;
    private static final int MOST = Integer.MAX_VALUE;
    private static final String TEN = "0123012301";
    private static final String ZEROS = "0000000000";
    private static final String ONES = "1111111111";

    // 256 and 65536 times a number, and a few more, look small when cut down to a byte or a short.
    private static final int[] FAR = {LEAST, LEAST + 1, -65536, -256, 256, 257, 65536, 65537, MOST - 1, MOST};

    private static final Checks checks = new Checks();

    public static void main(String[] args) {
        callsServed();
        terms();
        newObject();
        type();
        wipe();
        rules();
        best();
        ways();
        column();
        columns();
        local();
        fitted();
        overlap();
        paired();
        checks.end();
    }

    // What it is

    private static void callsServed() {
        fillingAndWipingFor512Calls();
        refusedCallsForMostOf512Calls();
        askingFor512Calls();
        askingInAnyOrder();
    }

    private static void fillingAndWipingFor512Calls() {
        checks.sentence("An object is used for at most 512 calls");
        AffineAligner x = new AffineAligner();
        int[] had = {0, 0};
        for (int call = 1; call <= 512; call++) {
            int which = call / 12 % 2;
            if (call % 12 == 11) {
                checks.due("call " + call + ": wipe", x.wipe(which), had[which]);
                had[which] = 0;
            } else {
                int want = had[which] == 10 ? FULL : had[which] + 1;
                checks.due("call " + call + ": type", x.type(which, call % 4), want);
                had[which] += want == FULL ? 0 : 1;
            }
        }
    }

    private static void refusedCallsForMostOf512Calls() {
        checks.sentence("An object is used for at most 512 calls");
        AffineAligner x = new AffineAligner();
        for (int call = 1; call <= 510; call += 3) {
            checks.due("call " + call + ": type", x.type(2, 0), BAD);
            checks.due("call " + (call + 1) + ": wipe", x.wipe(2), BAD);
            checks.due("call " + (call + 2) + ": rules", x.rules(10, 0, 0, 0), false);
        }
        checks.due("call 511: type", x.type(0, 0), 1);
        checks.due("call 512: best", x.best(), -3);
    }

    private static void askingFor512Calls() {
        checks.sentence("An object is used for at most 512 calls");
        AffineAligner x = Aligners.of(ZEROS, ZEROS, 0, 0, 0, 0);
        // 21 calls have made it ready; 61 rounds of 8 and the three at the end are the other 491.
        for (int round = 0; round < 61; round++) {
            checks.due("best", x.best(), 0);
            checks.due("ways", x.ways(), 8097453);
            checks.due("columns", x.columns(), 10);
            checks.due("column", x.column(9), 0);
            checks.due("local", x.local(), 0);
            checks.due("fitted", x.fitted(), 0);
            checks.due("overlap", x.overlap(), 0);
            checks.due("paired", x.paired(9, 0), true);
        }
        checks.due("call 510: columns", x.columns(), 10);
        checks.due("call 511: paired", x.paired(0, 9), true);
        checks.due("call 512: ways", x.ways(), 8097453);
    }

    private static void askingInAnyOrder() {
        checks.sentence("Nothing is promised beyond the answers and state changes described above");
        for (int before = 0; before < 8; before++) {
            for (int after = 0; after < 8; after++) {
                AffineAligner x = Aligners.of("30123012", "1012012");
                long alone = ask(x, after);
                AffineAligner y = Aligners.of("3", "30123012");
                ask(y, before);
                Aligners.retype(y, "30123012", "1012012");
                ask(y, before);
                checks.due("question " + after + " after question " + before, ask(y, after), alone);
            }
        }
    }

    private static long ask(AffineAligner x, int question) {
        return switch (question) {
            case 0 -> x.best();
            case 1 -> x.ways();
            case 2 -> x.columns();
            case 3 -> x.column(0);
            case 4 -> x.local();
            case 5 -> x.fitted();
            case 6 -> x.overlap();
            default -> x.paired(0, 0) ? 1 : 0;
        };
    }

    // Terms

    private static void terms() {
        upToTenLetters();
        lettersFromZeroToThree();
        placesFromZero();
        gapsAreLargestRuns();
        gapsAtTheEnds();
        openingAndLengthening();
        smallerSortFirst();
        partsMayBeEmpty();
    }

    private static void upToTenLetters() {
        checks.sentence("each of up to 10 letters");
        AffineAligner x = Aligners.of(TEN, TEN);
        checks.due("best", x.best(), 20);
        checks.due("columns", x.columns(), 10);
        checks.due("paired(9, 9)", x.paired(9, 9), true);
        checks.due("the tenth upper letter counts", Aligners.of("0123012300", TEN).best(), 17);
        checks.due("the tenth lower letter counts", Aligners.of(TEN, "0123012300").best(), 17);
    }

    private static void lettersFromZeroToThree() {
        checks.sentence("a letter is a number from 0 to 3");
        for (int a = 0; a <= 3; a++) {
            for (int b = 0; b <= 3; b++) {
                AffineAligner x = new AffineAligner();
                checks.due("type(0, " + a + ")", x.type(0, a), 1);
                checks.due("type(1, " + b + ")", x.type(1, b), 1);
                checks.due("best of " + a + " and " + b, x.best(), a == b ? 2 : -1);
            }
        }
    }

    private static void placesFromZero() {
        checks.sentence("places are numbered from 0");
        AffineAligner x = Aligners.of("0", "3330", 2, -1, 0, 0);
        checks.due("paired(0, 3)", x.paired(0, 3), true);
        checks.due("paired(1, 4)", x.paired(1, 4), false);
        checks.due("column(0)", x.column(0), 2);
        checks.due("column(3)", x.column(3), 0);
        checks.due("column(4)", x.column(4), BAD);
    }

    private static void gapsAreLargestRuns() {
        checks.sentence("A GAP is a largest run of columns of sort 1 .., or one of sort 2");
        checks.due("a run of ten is one gap", Aligners.of(ZEROS, "", 0, 0, 9, 0).best(), -9);
        checks.due("a run of ten is one gap", Aligners.of("", ZEROS, 0, 0, 9, 0).best(), -9);
        AffineAligner twoSorts = Aligners.of("0", "1", 0, -9, 2, 1);
        checks.due("runs of two sorts side by side are two gaps", twoSorts.best(), -6);
        AffineAligner parted = Aligners.of("00", "1", 0, -9, 3, 0);
        checks.due("sorts 1 1 2 and 2 1 1 have two gaps", parted.best(), -6);
        checks.due("sorts 1 2 1 have three gaps", parted.ways(), 2);
        checks.due("runs with a pair between are two gaps", Aligners.of("010", "1", 5, -9, 2, 1).best(), -1);
        checks.due("runs with a pair between are two gaps", Aligners.of("1", "010", 5, -9, 2, 1).best(), -1);
    }

    private static void gapsAtTheEnds() {
        checks.sentence("a list of COLUMNS that uses up both sequences");
        checks.due("a gap before the first pair costs", Aligners.of("30", "0", 2, -9, 2, 1).best(), -1);
        checks.due("a gap before the first pair costs", Aligners.of("0", "30", 2, -9, 2, 1).best(), -1);
        checks.due("a gap after the last pair costs", Aligners.of("03", "0", 2, -9, 2, 1).best(), -1);
        checks.due("a gap after the last pair costs", Aligners.of("0", "03", 2, -9, 2, 1).best(), -1);
    }

    private static void openingAndLengthening() {
        checks.sentence("for each gap, the OPENING cost and, for each of its columns, the LENGTHENING cost");
        checks.due("a gap of one column costs both", Aligners.of("0", "", 0, 0, 5, 3).best(), -8);
        checks.due("a gap of one column costs both", Aligners.of("", "0", 0, 0, 5, 3).best(), -8);
        checks.due("a gap of ten columns", Aligners.of(ZEROS, "", 0, 0, 5, 3).best(), -35);
        checks.due("a gap of ten columns", Aligners.of("", ZEROS, 0, 0, 5, 3).best(), -35);
        checks.due("no column, no gap", Aligners.of("0", "0", 0, 0, 9, 9).best(), 0);
    }

    private static void smallerSortFirst() {
        checks.sentence("ordered by the sort of the first column in which they differ, the smaller first");
        checks.due("0 before 1", Aligners.of("00", "0", 0, 0, 0, 0).column(0), 0);
        checks.due("0 before 2", Aligners.of("0", "00", 0, 0, 0, 0).column(0), 0);
        checks.due("1 before 2", Aligners.of("0", "0", -1, 0, 0, 0).column(0), 1);
        columnsAre("the last column is the first to differ", Aligners.of("33", "32", 0, -9, 0, 0), "012");
        columnsAre("1 2 2 before 2 0", Aligners.of("0", "10", 0, -1, 0, 0), "122");
        columnsAre("1 0 2 before 2 0 1", Aligners.of("01", "10", 1, -9, 0, 0), "102");
    }

    private static void partsMayBeEmpty() {
        checks.sentence("A PART of a sequence .. (it may be empty)");
        AffineAligner x = Aligners.of("0", "1", -9, -9, 1, 1);
        checks.due("local", x.local(), 0);
        checks.due("fitted", x.fitted(), -2);
        checks.due("overlap", x.overlap(), 0);
    }

    // Promise 1

    private static void newObject() {
        checks.sentence("1: Both sequences are empty");
        checks.due("wipe(0)", new AffineAligner().wipe(0), 0);
        checks.due("wipe(1)", new AffineAligner().wipe(1), 0);
        checks.due("type(0, 0)", new AffineAligner().type(0, 0), 1);
        checks.due("type(1, 0)", new AffineAligner().type(1, 0), 1);
        checks.sentence("1: equal letters gain 2, unequal ones -1; the opening cost is 2, the lengthening cost 1");
        rulesAre(new AffineAligner(), 2, -1, 2, 1);
    }

    /** Only where a pair scores more than two gaps of one column. */
    private static void rulesAre(AffineAligner x, int equal, int unequal, int opening, int lengthening) {
        Aligners.retype(x, "2", "2");
        checks.due("gain of equal letters", x.best(), equal);
        Aligners.retype(x, "2", "3");
        checks.due("gain of unequal letters", x.best(), unequal);
        Aligners.retype(x, "2", "");
        checks.due("a gap of one upper letter", x.best(), -opening - lengthening);
        Aligners.retype(x, "", "222");
        checks.due("a gap of three lower letters", x.best(), -opening - 3 * lengthening);
    }

    // Promise 2

    private static void type() {
        typeWhichOutside();
        typeLetterOutside();
        typeFull();
        typeBadBeforeFull();
        typeAnswersNumberOfLetters();
    }

    private static void typeWhichOutside() {
        checks.sentence("2: which outside 0..1 .. : BAD");
        AffineAligner x = Aligners.of("01", "012");
        for (int which : withFar(-1, 2)) {
            checks.due("type(" + which + ", 0)", x.type(which, 0), BAD);
            checks.due("type(" + which + ", 3)", x.type(which, 3), BAD);
            checks.due("type(" + which + ", 4)", x.type(which, 4), BAD);
        }
        lettersAre(x, 2, 3);
    }

    private static void typeLetterOutside() {
        checks.sentence("2: letter outside 0..3: BAD");
        AffineAligner x = Aligners.of("01", "012");
        for (int letter : withFar(-1, 4)) {
            checks.due("type(0, " + letter + ")", x.type(0, letter), BAD);
            checks.due("type(1, " + letter + ")", x.type(1, letter), BAD);
        }
        lettersAre(x, 2, 3);
    }

    private static void typeFull() {
        checks.sentence("2: it has 10 letters: FULL");
        for (int letter = 0; letter <= 3; letter++) {
            AffineAligner upperFull = Aligners.of(TEN, "0");
            checks.due("type(0, " + letter + ")", upperFull.type(0, letter), FULL);
            checks.due("type(0, " + letter + ") again", upperFull.type(0, letter), FULL);
            checks.due("the other one is not full", upperFull.type(1, letter), 2);
            lettersAre(upperFull, 10, 2);
            AffineAligner lowerFull = Aligners.of("0", TEN);
            checks.due("type(1, " + letter + ")", lowerFull.type(1, letter), FULL);
            checks.due("type(1, " + letter + ") again", lowerFull.type(1, letter), FULL);
            checks.due("the other one is not full", lowerFull.type(0, letter), 2);
            lettersAre(lowerFull, 2, 10);
        }
        AffineAligner x = Aligners.of(TEN, TEN);
        x.type(0, 3);
        x.type(1, 2);
        checks.due("no letter has changed", x.best(), 20);
        x.wipe(0);
        checks.due("wiped, it is full no longer", x.type(0, 0), 1);
        checks.due("the other one still is", x.type(1, 0), FULL);
    }

    private static void typeBadBeforeFull() {
        checks.sentence("2: Tested in this order");
        AffineAligner x = Aligners.of(TEN, TEN);
        for (int letter : withFar(-1, 4)) {
            checks.due("type(0, " + letter + ")", x.type(0, letter), BAD);
            checks.due("type(1, " + letter + ")", x.type(1, letter), BAD);
        }
        for (int which : withFar(-1, 2)) {
            checks.due("type(" + which + ", 0)", x.type(which, 0), BAD);
        }
    }

    private static void typeAnswersNumberOfLetters() {
        checks.sentence("2: Else answers its number of letters");
        AffineAligner x = new AffineAligner();
        for (int k = 1; k <= 10; k++) {
            checks.due("type(0, " + k % 4 + ")", x.type(0, k % 4), k);
        }
        for (int k = 1; k <= 10; k++) {
            checks.due("type(1, " + k % 4 + ")", x.type(1, k % 4), k);
        }
        checks.due("all were added at the end", x.best(), 20);
    }

    // Promise 3

    private static void wipe() {
        wipeEmptyAndFull();
        wipeOneAlone();
        wipeWhichOutside();
    }

    private static void wipeEmptyAndFull() {
        checks.sentence("3: Makes a sequence empty; answers how many letters it had");
        for (int which = 0; which <= 1; which++) {
            AffineAligner x = new AffineAligner();
            checks.due("wipe of an empty one", x.wipe(which), 0);
            checks.due("wipe of an empty one again", x.wipe(which), 0);
            Aligners.type(x, which, TEN);
            checks.due("wipe of a full one", x.wipe(which), 10);
            checks.due("it is empty", x.wipe(which), 0);
            checks.due("best of two empty ones", x.best(), 0);
            checks.due("columns of two empty ones", x.columns(), 0);
            x.type(which, 0);
            x.type(which, 4);
            checks.due("a refused letter is not had", x.wipe(which), 1);
            Aligners.type(x, which, TEN + "0");
            checks.due("a letter too many is not had", x.wipe(which), 10);
        }
    }

    private static void wipeOneAlone() {
        checks.sentence("3: Makes a sequence empty");
        AffineAligner x = Aligners.of("01", "012", 5, 4, 3, 2);
        checks.due("wipe(0)", x.wipe(0), 2);
        checks.due("lower stays", x.best(), -9);
        checks.due("wipe(1)", x.wipe(1), 3);
        checks.due("type(0, 1)", x.type(0, 1), 1);
        checks.due("wipe(1)", x.wipe(1), 0);
        checks.due("upper stays", x.wipe(0), 1);
        rulesAre(x, 5, 4, 3, 2);
    }

    private static void wipeWhichOutside() {
        checks.sentence("3: BAD for which outside 0..1");
        AffineAligner x = Aligners.of("01", "012");
        for (int which : withFar(-1, 2)) {
            checks.due("wipe(" + which + ")", x.wipe(which), BAD);
            checks.due("wipe(" + which + ") of empty ones", new AffineAligner().wipe(which), BAD);
        }
        lettersAre(x, 2, 3);
    }

    // Promise 4

    private static void rules() {
        gainsFromMinusNineToNine();
        costsFromZeroToNine();
        rulesRefused();
        rulesRefusedOfNewObject();
    }

    private static void gainsFromMinusNineToNine() {
        checks.sentence("4: the gains of equal and unequal letters (-9 to 9 each)");
        for (int gain = -9; gain <= 9; gain++) {
            AffineAligner x = new AffineAligner();
            checks.due("rules(" + gain + ", 1, 8, 7)", x.rules(gain, 1, 8, 7), true);
            rulesAre(x, gain, 1, 8, 7);
            checks.due("rules(1, " + gain + ", 8, 7)", x.rules(1, gain, 8, 7), true);
            rulesAre(x, 1, gain, 8, 7);
        }
    }

    private static void costsFromZeroToNine() {
        checks.sentence("4: the costs for opening and for lengthening (0 to 9 each)");
        for (int cost = 0; cost <= 9; cost++) {
            AffineAligner x = new AffineAligner();
            checks.due("rules(2, 1, " + cost + ", 4)", x.rules(2, 1, cost, 4), true);
            rulesAre(x, 2, 1, cost, 4);
            checks.due("rules(2, 1, 4, " + cost + ")", x.rules(2, 1, 4, cost), true);
            rulesAre(x, 2, 1, 4, cost);
        }
        AffineAligner x = new AffineAligner();
        checks.due("all the least", x.rules(-9, -9, 0, 0), true);
        checks.due("all the greatest", x.rules(9, 9, 9, 9), true);
        rulesAre(x, 9, 9, 9, 9);
    }

    private static void rulesRefused() {
        checks.sentence("4: A number out of range: refused, answers false");
        for (int place = 0; place < 4; place++) {
            for (int number : withFar(place < 2 ? -10 : -1, 10)) {
                int[] in = {1, 0, 2, 3};
                in[place] = number;
                refused(in);
            }
        }
        refused(new int[] {10, 10, 10, 10});
        refused(new int[] {-10, -10, -1, -1});
        refused(new int[] {10, -10, 3, 3});
        refused(new int[] {3, 3, 10, -1});
        refused(new int[] {-10, 3, 3, 10});
    }

    private static void refused(int[] in) {
        String call = "rules(" + in[0] + ", " + in[1] + ", " + in[2] + ", " + in[3] + ")";
        AffineAligner x = Aligners.of("012", "12", 7, -6, 5, 4);
        checks.due(call, x.rules(in[0], in[1], in[2], in[3]), false);
        checks.due(call + ", then best", x.best(), 5);
        rulesAre(x, 7, -6, 5, 4);
    }

    private static void rulesRefusedOfNewObject() {
        checks.sentence("4: refused");
        AffineAligner x = new AffineAligner();
        checks.due("rules(5, 5, 5, 10)", x.rules(5, 5, 5, 10), false);
        rulesAre(x, 2, -1, 2, 1);
        checks.due("rules(5, 4, 3, 2)", x.rules(5, 4, 3, 2), true);
        rulesAre(x, 5, 4, 3, 2);
    }

    // Promise 5

    private static void best() {
        checks.sentence("5: The greatest score of an alignment of the two sequences");
        checks.due("both empty", new AffineAligner().best(), 0);
        checks.due("both empty, all gains the greatest", Aligners.of("", "", 9, 9, 9, 9).best(), 0);
        checks.due("lower empty", Aligners.of(TEN, "").best(), -12);
        checks.due("upper empty", Aligners.of("", TEN).best(), -12);
        checks.due("below 0", Aligners.of("0", "1").best(), -1);
        checks.due("greatest of all, equal", Aligners.of(ZEROS, ZEROS, 9, -9, 9, 9).best(), 90);
        checks.due("greatest of all, unequal", Aligners.of(ZEROS, ONES, -9, 9, 9, 9).best(), 90);
        checks.due("full, all pairs the least", Aligners.of(ZEROS, ONES, 9, -9, 9, 9).best(), -90);
        checks.due("least of all", Aligners.of(ZEROS, "", 9, -9, 9, 9).best(), -99);
        checks.due("least of all", Aligners.of("11111", ZEROS, 9, -9, 9, 9).best(), -99);
        checks.due("gaps without cost", Aligners.of(ZEROS, ONES, -9, -9, 0, 0).best(), 0);
    }

    // Promise 6

    private static void ways() {
        checks.sentence("6: The number of alignments of the two sequences with the greatest score");
        checks.due("both empty", new AffineAligner().ways(), 1);
        checks.due("lower empty", Aligners.of(TEN, "", 0, 0, 0, 0).ways(), 1);
        checks.due("upper empty", Aligners.of("", TEN, 0, 0, 0, 0).ways(), 1);
        checks.due("one alone", Aligners.of(TEN, TEN, 9, -9, 9, 9).ways(), 1);
        checks.due("every one of one letter each", Aligners.of("0", "0", 0, 0, 0, 0).ways(), 3);
        checks.due("every one of full ones", Aligners.of(ZEROS, ZEROS, 0, 0, 0, 0).ways(), 8097453);
        checks.due("every one of full ones", Aligners.of(ZEROS, ONES, 9, 0, 0, 0).ways(), 8097453);
        checks.due("a pair as good as two gaps", Aligners.of("0", "0", -6, 0, 2, 1).ways(), 3);
        checks.due("a pair better by 1", Aligners.of("0", "0", -5, 0, 2, 1).ways(), 1);
        checks.due("a pair worse by 1", Aligners.of("0", "0", -7, 0, 2, 1).ways(), 2);
    }

    // Promise 7

    private static void column() {
        columnOutside();
        columnOfEmptyOnes();
        columnOfLongest();
        columnAfterShrinking();
        columnsAtTheEnds();
    }

    private static void columnOutside() {
        checks.sentence("7: BAD if it has no column i");
        AffineAligner x = Aligners.of("012", "02");
        columnsAre("012 and 02", x, "010");
        for (int i : withFar(-1, 3)) {
            checks.due("column(" + i + ")", x.column(i), BAD);
        }
        for (int i = 4; i <= 400; i++) {
            checks.due("column(" + i + ")", x.column(i), BAD);
        }
        checks.due("column(-1000)", x.column(BAD), BAD);
    }

    private static void columnOfEmptyOnes() {
        checks.sentence("7: BAD if it has no column i (both sequences empty)");
        AffineAligner x = new AffineAligner();
        for (int i : withFar(-1, 0)) {
            checks.due("column(" + i + ")", x.column(i), BAD);
        }
        columnsAre("upper empty", Aligners.of("", TEN), "2222222222");
        columnsAre("lower empty", Aligners.of(TEN, ""), "1111111111");
    }

    private static void columnOfLongest() {
        checks.sentence("7: BAD if it has no column i (20 columns)");
        AffineAligner x = Aligners.of(ZEROS, ONES, 0, -9, 0, 0);
        columnsAre("gaps alone", x, "11111111112222222222");
        checks.due("column(-1)", x.column(-1), BAD);
        checks.due("column(21)", x.column(21), BAD);
    }

    private static void columnAfterShrinking() {
        checks.sentence("7: BAD if it has no column i (it had one before)");
        AffineAligner x = Aligners.of(ZEROS, ONES, 0, -9, 0, 0);
        checks.due("column(19)", x.column(19), 2);
        x.rules(0, 0, 1, 1);
        checks.due("column(19) under other rules", x.column(19), BAD);
        checks.due("column(10) under other rules", x.column(10), BAD);
        checks.due("column(9) under other rules", x.column(9), 0);
        x.wipe(0);
        checks.due("column(9), upper wiped", x.column(9), 2);
        x.wipe(1);
        checks.due("column(0), both wiped", x.column(0), BAD);
    }

    private static void columnsAtTheEnds() {
        checks.sentence("7: The sort of column i of the first of these alignments");
        columnsAre("a gap at the beginning or at the end", Aligners.of("00", "0"), "01");
        columnsAre("a gap at the beginning or at the end", Aligners.of("0", "00"), "02");
        columnsAre("a gap at the beginning alone", Aligners.of("30", "0"), "10");
        columnsAre("a gap at the beginning alone", Aligners.of("0", "30"), "20");
        columnsAre("a pair better by 1 than two gaps", Aligners.of("0", "0", -5, 0, 2, 1), "0");
        columnsAre("a pair as good as two gaps", Aligners.of("0", "0", -6, 0, 2, 1), "0");
        columnsAre("a pair worse by 1 than two gaps", Aligners.of("0", "0", -7, 0, 2, 1), "12");
    }

    private static void columnsAre(String title, AffineAligner x, String sorts) {
        checks.due(title + ": columns()", x.columns(), sorts.length());
        for (int k = 0; k < sorts.length(); k++) {
            checks.due(title + ": column(" + k + ")", x.column(k), sorts.charAt(k) - '0');
        }
        checks.due(title + ": column after the last", x.column(sorts.length()), BAD);
    }

    // Promise 8

    private static void columns() {
        checks.sentence("8: The number of columns of the first of these alignments");
        checks.due("none", new AffineAligner().columns(), 0);
        checks.due("one", Aligners.of("0", "").columns(), 1);
        checks.due("upper empty", Aligners.of("", TEN).columns(), 10);
        checks.due("lower empty", Aligners.of(TEN, "").columns(), 10);
        checks.due("the fewest of full ones", Aligners.of(TEN, TEN).columns(), 10);
        checks.due("the most of full ones", Aligners.of(ZEROS, ONES, 0, -9, 0, 0).columns(), 20);
        checks.due("the first, not the longest", Aligners.of("0", "0", 0, 0, 0, 0).columns(), 1);
        checks.due("the first, not the shortest", Aligners.of("0", "10", 0, -1, 0, 0).columns(), 3);
    }

    // Promise 9

    private static void local() {
        localOfTwoEmptyParts();
        localAtTheEnds();
    }

    private static void localOfTwoEmptyParts() {
        checks.sentence("9: (of two empty parts it is 0)");
        checks.due("both empty", new AffineAligner().local(), 0);
        checks.due("lower empty", Aligners.of(TEN, "", 9, 9, 9, 9).local(), 0);
        checks.due("upper empty", Aligners.of("", TEN, 9, 9, 9, 9).local(), 0);
        checks.due("every column loses", Aligners.of(ZEROS, ZEROS, -9, -9, 9, 9).local(), 0);
        checks.due("gaps without cost", Aligners.of(ZEROS, ZEROS, -9, -9, 0, 0).local(), 0);
        checks.due("gains of 0", Aligners.of(ZEROS, ZEROS, 0, 0, 9, 9).local(), 0);
    }

    private static void localAtTheEnds() {
        checks.sentence("9: a part of the upper and a part of the lower sequence");
        checks.due("one letter each", Aligners.of("0", "0", 1, -9, 9, 9).local(), 1);
        checks.due("both whole", Aligners.of(TEN, TEN, 9, -9, 9, 9).local(), 90);
        checks.due("both beginnings", Aligners.of("0122222222", "0133333333", 9, -9, 9, 9).local(), 18);
        checks.due("both ends", Aligners.of("2222222201", "3333333301", 9, -9, 9, 9).local(), 18);
        checks.due("beginning and end", Aligners.of("0122222222", "3333333301", 9, -9, 9, 9).local(), 18);
        checks.due("end and beginning", Aligners.of("2222222201", "0133333333", 9, -9, 9, 9).local(), 18);
        checks.due("both middles", Aligners.of("2222012222", "3330133333", 9, -9, 9, 9).local(), 18);
        checks.due("all of a short one, end of a full one", Aligners.of("2222222201", "01").local(), 4);
        checks.due("all of a short one, end of a full one", Aligners.of("01", "2222222201").local(), 4);
    }

    // Promise 10

    private static void fitted() {
        fittedToEmptyParts();
        fittedTakesAllOfUpper();
        fittedAtTheEnds();
    }

    private static void fittedToEmptyParts() {
        checks.sentence("10: a part of the lower one (it may be empty)");
        checks.due("both empty", new AffineAligner().fitted(), 0);
        checks.due("upper empty", Aligners.of("", TEN, 9, 9, 9, 9).fitted(), 0);
        checks.due("lower empty", Aligners.of(TEN, "").fitted(), -12);
        checks.due("no pair is worth it", Aligners.of(ZEROS, ONES, 9, -9, 1, 1).fitted(), -11);
        checks.due("least of all", Aligners.of(ZEROS, "", 9, 9, 9, 9).fitted(), -99);
        checks.due("gaps without cost", Aligners.of(ZEROS, ZEROS, -9, -9, 0, 0).fitted(), 0);
    }

    private static void fittedTakesAllOfUpper() {
        checks.sentence("10: the whole upper sequence");
        checks.due("its first letter counts", Aligners.of("301", "01", 2, -9, 2, 1).fitted(), 1);
        checks.due("its last letter counts", Aligners.of("013", "01", 2, -9, 2, 1).fitted(), 1);
        checks.due("below 0", Aligners.of("0", "1").fitted(), -1);
        checks.due("lower in the middle of upper", Aligners.of("3330333", "0", 9, -9, 2, 1).fitted(), -1);
    }

    private static void fittedAtTheEnds() {
        checks.sentence("10: a part of the lower one");
        checks.due("its beginning", Aligners.of("01", "0133333333").fitted(), 4);
        checks.due("its middle", Aligners.of("01", "3333013333").fitted(), 4);
        checks.due("its end", Aligners.of("01", "3333333301").fitted(), 4);
        checks.due("all of it", Aligners.of(TEN, TEN, 9, -9, 9, 9).fitted(), 90);
        checks.due("one letter of it", Aligners.of("0", "3303333333").fitted(), 2);
        checks.due("a gap within it", Aligners.of("0123", "3301323333").fitted(), 5);
    }

    // Promise 11

    private static void overlap() {
        overlapOfEmptyParts();
        overlapUpperToItsEnd();
        overlapLowerFromItsBeginning();
    }

    private static void overlapOfEmptyParts() {
        checks.sentence("11: a part of the upper sequence .. and a part of the lower one (they may be empty)");
        checks.due("both empty", new AffineAligner().overlap(), 0);
        checks.due("lower empty", Aligners.of(TEN, "", 9, 9, 9, 9).overlap(), 0);
        checks.due("upper empty", Aligners.of("", TEN, 9, 9, 9, 9).overlap(), 0);
        checks.due("every column loses", Aligners.of(ZEROS, ZEROS, -9, -9, 9, 9).overlap(), 0);
        checks.due("gaps without cost", Aligners.of(ZEROS, ZEROS, -9, -9, 0, 0).overlap(), 0);
    }

    private static void overlapUpperToItsEnd() {
        checks.sentence("11: a part of the upper sequence that goes to its end");
        checks.due("its last letter counts", Aligners.of("0123", "012").overlap(), 3);
        checks.due("its last letter alone", Aligners.of("2222222220", "0333333333").overlap(), 2);
        checks.due("all of it", Aligners.of("012", "0123333333").overlap(), 6);
        checks.due("not its beginning", Aligners.of("0111111111", "3333333330").overlap(), 0);
        checks.due("nor its middle", Aligners.of("1101111111", "0333333333").overlap(), 0);
    }

    private static void overlapLowerFromItsBeginning() {
        checks.sentence("11: a part of the lower one that begins at its beginning");
        checks.due("its first letter counts", Aligners.of("012", "3012").overlap(), 3);
        checks.due("its first letter alone", Aligners.of("1111111130", "0222222222").overlap(), 2);
        checks.due("all of it", Aligners.of("3333333012", "012").overlap(), 6);
        checks.due("not its end", Aligners.of("2222222220", "3333333330").overlap(), 0);
        checks.due("nor its middle", Aligners.of("2222222220", "3333033333").overlap(), 0);
        checks.due("all of both", Aligners.of(TEN, TEN, 9, -9, 9, 9).overlap(), 90);
    }

    // Promise 12

    private static void paired() {
        pairedWithoutSuchLetter();
        pairedOfEmptyOnes();
        pairedAfterShrinking();
        pairedAfterOtherRules();
        pairedOfFullOnes();
        pairedInSomeAlignment();
    }

    private static void pairedWithoutSuchLetter() {
        checks.sentence("12: false if there is no such letter");
        // Numbers that a table with one row after the other would find in a neighbouring row are among these.
        for (int near = -3; near <= 3; near++) {
            AffineAligner x = Aligners.of("00", "000", 0, 0, 0, 0);
            for (int wide = -40; wide <= 40; wide++) {
                pairedIs(x, wide, near, wide >= 0 && wide < 2 && near >= 0 && near < 3);
                pairedIs(x, near, wide, near >= 0 && near < 2 && wide >= 0 && wide < 3);
            }
        }
        AffineAligner x = Aligners.of("00", "000", 0, 0, 0, 0);
        for (int k : withFar(-1, 10)) {
            for (int other = 0; other <= 1; other++) {
                pairedIs(x, k, other, false);
                pairedIs(x, other, k, false);
            }
            pairedIs(x, k, k, false);
            pairedIs(x, k, -k, false);
        }
    }

    private static void pairedIs(AffineAligner x, int i, int j, boolean want) {
        checks.due("paired(" + i + ", " + j + ")", x.paired(i, j), want);
    }

    private static void pairedOfEmptyOnes() {
        checks.sentence("12: false if there is no such letter (a sequence is empty)");
        AffineAligner upperEmpty = Aligners.of("", TEN, 9, 9, 9, 9);
        AffineAligner lowerEmpty = Aligners.of(TEN, "", 9, 9, 9, 9);
        AffineAligner bothEmpty = new AffineAligner();
        for (int k = -1; k <= 10; k++) {
            pairedIs(upperEmpty, 0, k, false);
            pairedIs(lowerEmpty, k, 0, false);
            pairedIs(bothEmpty, k, k, false);
        }
    }

    private static void pairedAfterShrinking() {
        checks.sentence("12: false if there is no such letter (there was one before)");
        AffineAligner x = Aligners.of(TEN, TEN);
        pairedIs(x, 1, 1, true);
        x.wipe(0);
        pairedIs(x, 0, 0, false);
        x.type(0, 0);
        pairedIs(x, 0, 0, true);
        pairedIs(x, 1, 1, false);
        x.wipe(1);
        pairedIs(x, 0, 0, false);
    }

    private static void pairedAfterOtherRules() {
        checks.sentence("12: Whether some alignment .. has (one had before)");
        AffineAligner x = Aligners.of("000", "00", 0, 0, 0, 0);
        pairedIs(x, 2, 0, true);
        x.rules(2, -1, 2, 1);
        pairedIs(x, 2, 0, false);
        pairedIs(x, 2, 1, true);
    }

    private static void pairedOfFullOnes() {
        checks.sentence("12: false if there is no such letter (both sequences full)");
        AffineAligner x = Aligners.of(ZEROS, ONES, 0, 0, 0, 0);
        for (int i = -1; i <= 10; i++) {
            for (int j = -1; j <= 10; j++) {
                pairedIs(x, i, j, i >= 0 && i < 10 && j >= 0 && j < 10);
            }
        }
    }

    private static void pairedInSomeAlignment() {
        checks.sentence("12: Whether some alignment of the two sequences with the greatest score has");
        AffineAligner x = Aligners.of("00", "0");
        pairedIs(x, 0, 0, true);
        pairedIs(x, 1, 0, true);
        AffineAligner upperLong = Aligners.of(ZEROS, "0");
        AffineAligner lowerLong = Aligners.of("0", ZEROS);
        for (int k = 0; k < 10; k++) {
            // Anywhere else a pair would part the gap into two.
            pairedIs(upperLong, k, 0, k == 0 || k == 9);
            pairedIs(lowerLong, 0, k, k == 0 || k == 9);
        }
        pairedIs(Aligners.of("0", "0", -5, 0, 2, 1), 0, 0, true);
        pairedIs(Aligners.of("0", "0", -6, 0, 2, 1), 0, 0, true);
        pairedIs(Aligners.of("0", "0", -7, 0, 2, 1), 0, 0, false);
        pairedIs(Aligners.of("0", "1", 0, -6, 2, 1), 0, 0, true);
        pairedIs(Aligners.of("0", "1", 0, -7, 2, 1), 0, 0, false);
    }

    // Helpers

    private static int[] withFar(int justBelow, int justAbove) {
        int[] all = new int[FAR.length + 2];
        all[0] = justBelow;
        all[1] = justAbove;
        System.arraycopy(FAR, 0, all, 2, FAR.length);
        return all;
    }

    private static void lettersAre(AffineAligner x, int upper, int lower) {
        checks.due("letters of upper", x.wipe(0), upper);
        checks.due("letters of lower", x.wipe(1), lower);
    }
}
