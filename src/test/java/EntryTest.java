/** Promise 5: entry. */
public final class EntryTest {
    private static final Check CHECK = new Check("EntryTest");

    public static void main(String[] args) {
        whatThereIs();
        noSuchEntry();
        noSuchWhat();
        notOpen();
        changesNothing();
        CHECK.end();
    }

    private static void dueEntry(PuzzleBook book, int k, int name, int block, int bytes) {
        CHECK.due("entry(" + k + ", 0)", book.entry(k, 0), name);
        CHECK.due("entry(" + k + ", 1)", book.entry(k, 1), block);
        CHECK.due("entry(" + k + ", 2)", book.entry(k, 2), bytes);
    }

    private static void whatThereIs() {
        CHECK.sentence("Of entry k: 0 its name, 1 its block, 2 how many bytes");
        PuzzleBook book = new PuzzleBook(64);
        Books.enter(book, 0, Books.row(0, 48));
        Books.enter(book, 65535, 0);
        Books.enter(book, 256, 1, 2);
        dueEntry(book, 0, 0, 3, 48);
        dueEntry(book, 1, 65535, 4, 1);
        dueEntry(book, 2, 256, 5, 2);
        dueEntry(Books.forty(), 39, 39, 42, 1);
        dueEntry(Books.outOfOrder(), 2, 4, 3, 1);
    }

    private static void noSuchEntry() {
        CHECK.sentence("-1 when there is none such: no entry k");
        for (int what = 0; what <= 2; what++) {
            for (int k : Books.andFar(-1, 3, 4, 39, 40, 41, 255, 256)) {
                CHECK.due("entry(" + k + ", " + what + ")", Books.three().entry(k, what), -1);
            }
            CHECK.due("entry(0, " + what + ") of a new book", new PuzzleBook(4).entry(0, what), -1);
            CHECK.due("entry(40, " + what + ") of 40", Books.forty().entry(40, what), -1);
        }
        PuzzleBook book = Books.three();
        book.drop(0);
        CHECK.due("entry(2, 1) behind drop", book.entry(2, 1), -1);
    }

    private static void noSuchWhat() {
        CHECK.sentence("-1 when there is none such: 0, 1 and 2 alone are told");
        PuzzleBook book = Books.three();
        for (int what : Books.andFar(-1, -2, 3, 4, 256, 257)) {
            CHECK.due("entry(0, " + what + ")", book.entry(0, what), -1);
            CHECK.due("entry(3, " + what + ")", book.entry(3, what), -1);
        }
    }

    private static void notOpen() {
        CHECK.sentence("-1 when the book is not open");
        for (int what = 0; what <= 2; what++) {
            CHECK.due("entry(0, " + what + "), cut off", Books.cutOff().entry(0, what), -1);
            CHECK.due("entry(0, " + what + "), refused", Books.refused().entry(0, what), -1);
        }
    }

    private static void changesNothing() {
        CHECK.sentence("entry only tells");
        Twins.dueNothing(CHECK, "entry(1, 0)", Books::three, book -> book.entry(1, 0), 44);
        Twins.dueNothing(CHECK, "entry(3, 0)", Books::three, book -> book.entry(3, 0), -1);
    }
}
