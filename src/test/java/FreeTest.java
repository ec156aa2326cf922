/** Promise 12: free. */
public final class FreeTest {
    private static final Check CHECK = new Check("FreeTest");

    public static void main(String[] args) {
        howMany();
        noneIsFree();
        fortyEntries();
        asOpened();
        notOpen();
        changesNothing();
        CHECK.end();
    }

    private static void howMany() {
        CHECK.sentence("How many blocks are free");
        PuzzleBook book = new PuzzleBook(6);
        CHECK.due("free() of a new book", book.free(), 3);
        Books.enter(book, 1, 10);
        CHECK.due("free() behind put", book.free(), 2);
        Books.enter(book, 1, 10);
        CHECK.due("free() behind a put of the same row", book.free(), 2);
        book.put(1);
        book.drop(5);
        CHECK.due("free() behind refused calls", book.free(), 2);
        book.drop(0);
        CHECK.due("free() behind drop", book.free(), 3);
    }

    private static void noneIsFree() {
        CHECK.sentence("How many blocks are free: none");
        PuzzleBook book = Books.full();
        CHECK.due("free()", book.free(), 0);
        Books.enter(book, 9, 99);
        CHECK.due("free() behind a refused put", book.free(), 0);
        book.drop(1);
        CHECK.due("free() behind drop", book.free(), 1);
    }

    private static void fortyEntries() {
        CHECK.sentence("How many blocks are free, where 40 entries leave some");
        CHECK.due("free() of 64 blocks", new PuzzleBook(64).free(), 61);
        CHECK.due("free() of 64 blocks with 40 entries", Books.forty().free(), 21);
    }

    private static void asOpened() {
        CHECK.sentence("How many blocks are free, as the book was opened");
        PuzzleBook book = Books.full();
        Books.set(book, 0, 0, 2);
        CHECK.due("free() of an altered turn", book.free(), 0);
        book.reopen();
        CHECK.due("free() as it was read", book.free(), 1);
    }

    private static void notOpen() {
        CHECK.sentence("-1 when the book is not open");
        CHECK.due("free(), cut off", Books.cutOff().free(), -1);
        CHECK.due("free(), refused", Books.refused().free(), -1);
        PuzzleBook book = Books.cutOff();
        book.reopen();
        CHECK.due("free(), opened again", book.free(), 1);
    }

    private static void changesNothing() {
        CHECK.sentence("free only tells");
        Twins.dueNothing(CHECK, "free()", Books::three, PuzzleBook::free, 2);
        Twins.dueNothing(CHECK, "free(), cut off", Books::cutOff, PuzzleBook::free, -1);
    }
}
