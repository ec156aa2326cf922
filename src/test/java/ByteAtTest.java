/** Promise 11: byteAt. */
public final class ByteAtTest {
    private static final Check CHECK = new Check("ByteAtTest");

    public static void main(String[] args) {
        byteOfABlock();
        noSuchBlock();
        noSuchByte();
        notOpen();
        changesNothing();
        CHECK.end();
    }

    private static void byteOfABlock() {
        CHECK.sentence("Byte i of a block");
        PuzzleBook book = Books.full();
        CHECK.due("byteAt(0, 0)", book.byteAt(0, 0), 1);
        CHECK.due("byteAt(1, 2)", book.byteAt(1, 2), 4);
        CHECK.due("byteAt(4, 3)", book.byteAt(4, 3), 12);
        for (int b = 1; b <= 255; b++) {
            book = new PuzzleBook(5);
            book.poke(4, 63, b);
            CHECK.due("byteAt(4, 63)", book.byteAt(4, 63), b);
            CHECK.due("byteAt(4, 62)", book.byteAt(4, 62), 0);
        }
    }

    private static void noSuchBlock() {
        CHECK.sentence("ArrayIndexOutOfBoundsException: there is no such block");
        PuzzleBook book = Books.full();
        for (int block : Books.andFar(-1, -64, 5, 6, 63, 64)) {
            CHECK.dueThrow("byteAt(" + block + ", 0)", book, block, 0);
            CHECK.dueThrow("byteAt(" + block + ", 63)", book, block, 63);
        }
        CHECK.dueThrow("byteAt(64, 0) of 64 blocks", new PuzzleBook(64), 64, 0);
        CHECK.dueThrow("byteAt(4, 0) of 4 blocks", new PuzzleBook(4), 4, 0);
    }

    private static void noSuchByte() {
        CHECK.sentence("ArrayIndexOutOfBoundsException: there is no such byte");
        PuzzleBook book = Books.full();
        for (int i : Books.andFar(-1, -64, 64, 65, 128)) {
            CHECK.dueThrow("byteAt(0, " + i + ")", book, 0, i);
            CHECK.dueThrow("byteAt(1, " + i + ")", book, 1, i);
            CHECK.dueThrow("byteAt(4, " + i + ")", book, 4, i);
            CHECK.dueThrow("byteAt(-1, " + i + ")", book, -1, i);
            CHECK.dueThrow("byteAt(5, " + i + ")", book, 5, i);
        }
    }

    private static void notOpen() {
        CHECK.sentence("Byte i of a block, of a book that is not open too");
        CHECK.due("byteAt(0, 0), cut off", Books.cutOff().byteAt(0, 0), 2);
        CHECK.due("byteAt(4, 3), cut off", Books.cutOff().byteAt(4, 3), 12);
        CHECK.due("byteAt(0, 0), refused", Books.refused().byteAt(0, 0), 0);
        CHECK.dueThrow("byteAt(5, 0), cut off", Books.cutOff(), 5, 0);
        CHECK.dueThrow("byteAt(0, 64), refused", Books.refused(), 0, 64);
    }

    private static void changesNothing() {
        CHECK.sentence("byteAt only tells");
        Twins.dueNothing(CHECK, "byteAt(3, 3)", Books::three, book -> book.byteAt(3, 3), 1);
        Twins.dueNothing(
                CHECK, "byteAt(8, 0)", Books::three, book -> Books.byteOrThrown(book, 8, 0), Books.THROWN);
    }
}
