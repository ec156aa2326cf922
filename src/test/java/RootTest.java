/** Promise 13: root. */
public final class RootTest {
    private static final Check CHECK = new Check("RootTest");

    public static void main(String[] args) {
        turned();
        notTurned();
        read();
        altered();
        notOpen();
        changesNothing();
        CHECK.end();
    }

    private static void turned() {
        CHECK.sentence("THE TURN as it was turned latest");
        PuzzleBook book = new PuzzleBook(6);
        CHECK.due("root() of a new book", book.root(), 1);
        Books.enter(book, 1, 10);
        CHECK.due("root() behind put", book.root(), 2);
        Books.enter(book, 2, 20);
        CHECK.due("root() behind two", book.root(), 1);
        book.drop(0);
        CHECK.due("root() behind drop", book.root(), 2);
    }

    private static void notTurned() {
        CHECK.sentence("THE TURN as it was turned latest, and not by what writes nothing");
        PuzzleBook book = Books.full();
        Books.enter(book, 9, 12);
        CHECK.due("root() behind a put of the same row", book.root(), 1);
        Books.enter(book, 9, 13);
        CHECK.due("root() behind a refused put", book.root(), 1);
        book.drop(2);
        CHECK.due("root() behind a refused drop", book.root(), 1);
        book.crash(130);
        CHECK.due("root() behind a refused crash", book.root(), 1);
    }

    private static void read() {
        CHECK.sentence("THE TURN as it was read latest");
        PuzzleBook book = Books.full();
        book.crash(128);
        book.reopen();
        CHECK.due("root() of a put cut off before its last byte", book.root(), 2);
        PuzzleBook whole = Books.full();
        whole.crash(129);
        whole.reopen();
        CHECK.due("root() of a put cut off behind its last byte", whole.root(), 1);
    }

    private static void altered() {
        CHECK.sentence("as it was read or turned, not as it was altered");
        PuzzleBook book = Books.full();
        Books.set(book, 0, 0, 2);
        CHECK.due("root()", book.root(), 1);
        Books.set(book, 0, 0, 77);
        CHECK.due("root() of 77", book.root(), 1);
        Books.set(book, 0, 0, 2);
        book.reopen();
        CHECK.due("root() as it was read", book.root(), 2);
    }

    private static void notOpen() {
        CHECK.sentence("-1 when the book is not open");
        CHECK.due("root(), cut off", Books.cutOff().root(), -1);
        CHECK.due("root(), refused", Books.refused().root(), -1);
        PuzzleBook book = Books.full();
        book.poke(1, 9, 1);
        book.reopen();
        CHECK.due("root(), THE TURN read but the root refused", book.root(), -1);
    }

    private static void changesNothing() {
        CHECK.sentence("root only tells");
        Twins.dueNothing(CHECK, "root()", Books::three, PuzzleBook::root, 2);
        Twins.dueNothing(CHECK, "root(), cut off", Books::cutOff, PuzzleBook::root, -1);
    }
}
