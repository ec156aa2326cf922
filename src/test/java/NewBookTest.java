/** Promise 1: a new object. */
public final class NewBookTest {
    private static final Check CHECK = new Check("NewBookTest");

    public static void main(String[] args) {
        CHECK.sentence("So many blocks");
        for (int blocks : new int[] {4, 5, 6, 33, 62, 63, 64}) {
            dueBlocks(blocks, blocks);
        }
        CHECK.sentence("what is below counts as 4");
        for (int blocks : new int[] {3, 2, 1, 0, -1, -4, -64, -(1 << 26), Integer.MIN_VALUE}) {
            dueBlocks(blocks, 4);
        }
        CHECK.sentence("what is above counts as 64");
        for (int blocks : new int[] {65, 66, 128, 256, 1 << 26, Integer.MAX_VALUE}) {
            dueBlocks(blocks, 64);
        }
        CHECK.end();
    }

    private static void dueBlocks(int wanted, int due) {
        PuzzleBook book = new PuzzleBook(wanted);
        String what = "new PuzzleBook(" + wanted + "): ";
        CHECK.due(what + "free()", book.free(), due - 3);
        CHECK.due(what + "last byte", book.byteAt(due - 1, 63), 0);
        CHECK.dueThrow(what + "byteAt behind the last block", book, due, 0);
        CHECK.due(what + "poke of the last block", book.poke(due - 1, 63, 1), true);
        CHECK.due(what + "poke behind the last block", book.poke(due, 0, 1), false);
        int entries = Math.min(40, due - 3);
        for (int k = 0; k < entries; k++) {
            CHECK.due(what + "put nr " + k, Books.enter(book, k, k), k);
        }
        CHECK.due(what + "one put more", Books.enter(book, 99, 99), -1);
    }
}
