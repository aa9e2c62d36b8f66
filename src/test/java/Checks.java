/** Counts and prints the answers that are not as due. */
final class Checks {
    private String sentence = "";
    private int wrong;
    private int made;

    /** The words of the document that the checks after this are about. */
    void sentence(String words) {
        sentence = words + " | ";
    }

    void due(String call, long got, long want) {
        made++;
        if (got != want) {
            wrong++;
            System.out.println(sentence + call + " answered " + got + ", due is " + want);
        }
    }

    void due(String call, boolean got, boolean want) {
        due(call, got ? 1 : 0, want ? 1 : 0);
    }

    void end() {
        System.out.println(made + " checks, " + wrong + " wrong");
        if (wrong != 0 || made == 0) {
            System.exit(1);
        }
    }
}
