/** Looks at the answers of one test, sentence by sentence, and tells those that are not as due. */
final class Check {
    private final String test;
    private String sentence = "";
    private int sentences = 0;
    private int made = 0;
    private int wrong = 0;

    Check(String test) {
        this.test = test;
    }

    /** What is looked at from now on belongs to this sentence of the document. */
    void sentence(String words) {
        sentences++;
        sentence = " [" + words + "]";
    }

    void due(String call, long got, long want) {
        made++;
        if (got != want) {
            tell(call + " answered " + got + ", due is " + want);
        }
    }

    void due(String call, boolean got, boolean want) {
        due(call, got ? 1 : 0, want ? 1 : 0);
    }

    void dueThrow(String call, PuzzleBook book, int block, int i) {
        due(call + " (" + Books.THROWN + " is the exception)", Books.byteOrThrown(book, block, i), Books.THROWN);
    }

    void tell(String fault) {
        wrong++;
        System.out.println(test + sentence + ": " + fault);
    }

    int wrong() {
        return wrong;
    }

    void end() {
        String counted = sentences == 0 ? "" : sentences + " sentences, ";
        System.out.println(test + ": " + counted + made + " answers looked at, " + wrong + " not as due");
        if (wrong != 0) {
            System.exit(1);
        }
    }
}
