/** Promise 6: drop. */
public final class DropTest {
    private static final Check CHECK = new Check("DropTest");

    public static void main(String[] args) {
        dropWrites();
        dropRefuses();
        dropOrder();
        placesComeBack();
        CHECK.end();
    }

    private static PuzzleBook four() {
        PuzzleBook book = new PuzzleBook(8);
        for (int k = 0; k < 4; k++) {
            Books.enter(book, 10 + k, 20 + k);
        }
        return book;
    }

    private static void dropWrites() {
        PuzzleBook book = four();
        book.poke(2, 5, 77);
        int[] root = Books.block(book, 1);
        CHECK.due("drop(1)", book.drop(1), true);
        Books.dueBlock(CHECK, "other root", book, 2, Books.sealed(3, 3, 5, 6));
        Books.dueBlock(CHECK, "old root", book, 1, root);
        CHECK.due("THE TURN", book.byteAt(0, 0), 2);
        CHECK.due("the dropped row still stands", book.byteAt(4, 3), 21);
    }

    private static void dropRefuses() {
        PuzzleBook book = four();
        for (int k : new int[] {-1, 4, 39, 40, Integer.MIN_VALUE, Integer.MAX_VALUE}) {
            CHECK.due("drop(" + k + ")", book.drop(k), false);
        }
        CHECK.due("nothing was done", book.root(), 1);
        book.crash(129);
        CHECK.due("drop(0) not open", book.drop(0), false);
        CHECK.due("THE TURN", book.byteAt(0, 0), 1);
        CHECK.due("drop(0) of an empty book", new PuzzleBook(9).drop(0), false);
    }

    private static void dropOrder() {
        PuzzleBook book = four();
        book.drop(0);
        CHECK.due("entry(0, 0)", book.entry(0, 0), 11);
        CHECK.due("entry(2, 0)", book.entry(2, 0), 13);
        CHECK.due("entry(3, 0)", book.entry(3, 0), -1);
        book.drop(2);
        CHECK.due("entry(1, 0)", book.entry(1, 0), 12);
        CHECK.due("entry(2, 0)", book.entry(2, 0), -1);
        book.drop(0);
        book.drop(0);
        CHECK.due("entry(0, 0)", book.entry(0, 0), -1);
        CHECK.due("free()", book.free(), 5);
        CHECK.due("reopen()", book.reopen(), 0);
    }

    private static void placesComeBack() {
        PuzzleBook book = four();
        book.drop(2);
        book.drop(0);
        CHECK.due("put", Books.enter(book, 1, 1), 2);
        CHECK.due("the least free block", book.entry(2, 1), 3);
        CHECK.due("put", Books.enter(book, 2, 2), 3);
        CHECK.due("the next", book.entry(3, 1), 5);
        CHECK.due("put", Books.enter(book, 3, 3), 4);
        CHECK.due("the last", book.entry(4, 1), 7);
        CHECK.due("a dropped row is no entry's", Books.enter(book, 4, 20), -1);
    }
}
