/** Aligners with their sequences, written as digits, already typed. */
final class Aligners {
    private Aligners() {
    }

    static AffineAligner of(String upper, String lower) {
        AffineAligner x = new AffineAligner();
        type(x, 0, upper);
        type(x, 1, lower);
        return x;
    }

    static AffineAligner of(String upper, String lower, int equal, int unequal, int opening, int lengthening) {
        AffineAligner x = of(upper, lower);
        x.rules(equal, unequal, opening, lengthening);
        return x;
    }

    static void type(AffineAligner x, int which, String letters) {
        for (int k = 0; k < letters.length(); k++) {
            x.type(which, letters.charAt(k) - '0');
        }
    }

    /** Sets both sequences anew; the rules stay. */
    static void retype(AffineAligner x, String upper, String lower) {
        x.wipe(0);
        x.wipe(1);
        type(x, 0, upper);
        type(x, 1, lower);
    }
}
