/** Counts the answers of one test and tells those that are not as due. */
final class Check {
    private final String test;
    private int made = 0;
    private int wrong = 0;

    Check(String test) {
        this.test = test;
    }

    void due(String call, long got, long want) {
        made++;
        if (got != want) {
            wrong++;
            System.out.println(test + ": " + call + " answered " + got + ", due is " + want);
        }
    }

    void due(String call, boolean got, boolean want) {
        due(call, got ? 1 : 0, want ? 1 : 0);
    }

    void dueThrow(String call, PuzzleBook book, int block, int i) {
        made++;
        try {
            int got = book.byteAt(block, i);
            tell(call + " answered " + got + ", due is an exception");
        } catch (ArrayIndexOutOfBoundsException e) {
            if (e.getClass() != ArrayIndexOutOfBoundsException.class) {
                tell(call + " threw " + e.getClass());
            }
            // The machine's own exception has a text of this form; the class must throw by itself.
            if (e.getMessage() != null && e.getMessage().startsWith("Index ")) {
                tell(call + " let the machine throw");
            }
        }
    }

    void tell(String fault) {
        wrong++;
        System.out.println(test + ": " + fault);
    }

    int wrong() {
        return wrong;
    }

    void end() {
        System.out.println(test + ": " + made + " answers looked at, " + wrong + " not as due");
        if (wrong != 0) {
            System.exit(1);
        }
    }
}
