/** Promise 10: badAt. */
public final class BadAtTest {
    private static final Check CHECK = new Check("BadAtTest");

    public static void main(String[] args) {
        eachBlock();
        least();
        rootOfTheOpenBook();
        sumsAlone();
        none();
        notOpen();
        changesNothing();
        CHECK.end();
    }

    private static void eachBlock() {
        CHECK.sentence("whose sum is not right: any byte of THE ROOT's and an entry's block");
        for (int block : new int[] {2, 3, 4, 5}) {
            for (int i = 0; i < 64; i++) {
                PuzzleBook book = Books.three();
                book.poke(block, i, 1 << i % 8);
                CHECK.due("badAt() of block " + block + ", byte " + i, book.badAt(), block);
            }
        }
        PuzzleBook first = Books.full();
        first.poke(1, 0, 1);
        CHECK.due("badAt() of root 1", first.badAt(), 1);
        PuzzleBook forty = Books.forty();
        forty.poke(42, 63, 1);
        CHECK.due("badAt() of the last of 40", forty.badAt(), 42);
    }

    private static void least() {
        CHECK.sentence("The least block, of THE ROOT and those of the entries");
        PuzzleBook book = Books.outOfOrder();
        book.poke(5, 60, 1);
        CHECK.due("badAt() of 5", book.badAt(), 5);
        book.poke(4, 59, 4);
        CHECK.due("badAt() of 4 and 5", book.badAt(), 4);
        book.poke(3, 63, 128);
        CHECK.due("badAt() of 3, the last entry's, 4 and 5", book.badAt(), 3);
        book.poke(2, 62, 16);
        CHECK.due("badAt() of the root too", book.badAt(), 2);
        book.poke(3, 63, 128);
        book.poke(2, 62, 16);
        CHECK.due("badAt() of 4 and 5 again", book.badAt(), 4);
    }

    private static void rootOfTheOpenBook() {
        CHECK.sentence("THE ROOT is the open book's, whatever THE TURN was altered to");
        PuzzleBook book = Books.three();
        Books.set(book, 0, 0, 1);
        book.poke(1, 5, 1);
        CHECK.due("badAt() of the other root altered", book.badAt(), -1);
        book.poke(2, 5, 1);
        CHECK.due("badAt() of its root altered", book.badAt(), 2);
    }

    private static void sumsAlone() {
        CHECK.sentence("whose sum is not right, and nothing else");
        PuzzleBook book = Books.three();
        Books.set(book, 4, 2, 0);
        Books.reseal(book, 4);
        CHECK.due("an entry that tells 0, with its sum", book.badAt(), -1);
        Books.set(book, 2, 0, 99);
        Books.reseal(book, 2);
        CHECK.due("a root that tells 99, with its sum", book.badAt(), -1);
    }

    private static void none() {
        CHECK.sentence("-1 when there is none");
        CHECK.due("badAt() of a new book", new PuzzleBook(4).badAt(), -1);
        CHECK.due("badAt() of 40", Books.forty().badAt(), -1);
        PuzzleBook book = Books.three();
        book.poke(0, 5, 1);
        book.poke(1, 0, 1);
        book.poke(6, 0, 1);
        book.poke(7, 63, 1);
        CHECK.due("block 0, the other root and free blocks do not count", book.badAt(), -1);
        book.poke(4, 9, 1);
        book.drop(1);
        CHECK.due("a dropped entry's block does not count", book.badAt(), -1);
    }

    private static void notOpen() {
        CHECK.sentence("-1 when the book is not open");
        PuzzleBook cut = Books.cutOff();
        cut.poke(2, 9, 1);
        cut.poke(3, 9, 1);
        CHECK.due("badAt(), cut off", cut.badAt(), -1);
        PuzzleBook refused = Books.refused();
        refused.poke(1, 9, 1);
        refused.poke(3, 9, 1);
        CHECK.due("badAt(), refused", refused.badAt(), -1);
    }

    private static void changesNothing() {
        CHECK.sentence("badAt only tells");
        Twins.dueNothing(CHECK, "badAt()", Books::three, PuzzleBook::badAt, -1);
        Twins.dueNothing(CHECK, "badAt() of an altered book", BadAtTest::altered, PuzzleBook::badAt, 4);
    }

    private static PuzzleBook altered() {
        PuzzleBook book = Books.three();
        book.poke(4, 9, 1);
        return book;
    }
}
