/** Promises 1, 11, 12 and 13: a new object, byteAt, free and root. */
public final class NewBookTest {
    private static final Check CHECK = new Check("NewBookTest");

    public static void main(String[] args) {
        blocksAreHeld();
        newStore();
        byteAtRange();
        freeAndRoot();
        notOpen();
        CHECK.end();
    }

    private static void blocksAreHeld() {
        int[][] wantedAndDue = {
            {Integer.MIN_VALUE, 4}, {-1, 4}, {0, 4}, {3, 4}, {4, 4}, {5, 5}, {33, 33},
            {63, 63}, {64, 64}, {65, 64}, {Integer.MAX_VALUE, 64}
        };
        for (int[] pair : wantedAndDue) {
            PuzzleBook book = new PuzzleBook(pair[0]);
            String what = "new PuzzleBook(" + pair[0] + "): ";
            CHECK.due(what + "free()", book.free(), pair[1] - 3);
            CHECK.due(what + "last byte", book.byteAt(pair[1] - 1, 63), 0);
            CHECK.dueThrow(what + "byte behind the last", book, pair[1], 0);
        }
    }

    private static void newStore() {
        PuzzleBook book = new PuzzleBook(4);
        int[] first = new int[64];
        first[0] = 1;
        Books.dueBlock(CHECK, "new", book, 0, first);
        Books.dueBlock(CHECK, "new", book, 1, Books.sealed(0));
        Books.dueBlock(CHECK, "new", book, 2, new int[64]);
        Books.dueBlock(CHECK, "new", book, 3, new int[64]);
        CHECK.due("root()", book.root(), 1);
        CHECK.due("badAt()", book.badAt(), -1);
        CHECK.due("entry(0, 1)", book.entry(0, 1), -1);
        CHECK.due("crash(0)", book.crash(0), false);
        CHECK.due("reopen()", book.reopen(), 0);
    }

    private static void byteAtRange() {
        PuzzleBook book = new PuzzleBook(5);
        int[][] wrong = {
            {-1, 0}, {5, 0}, {0, -1}, {0, 64}, {4, 64}, {1, -1}, {-1, 64}, {5, -1},
            {Integer.MIN_VALUE, 0}, {Integer.MAX_VALUE, 0}, {0, Integer.MIN_VALUE},
            {0, Integer.MAX_VALUE}, {1 << 26, 0}, {1 << 26, 63}, {3, -64}
        };
        for (int[] place : wrong) {
            CHECK.dueThrow("byteAt(" + place[0] + ", " + place[1] + ")", book, place[0], place[1]);
        }
        book.poke(4, 63, 255);
        CHECK.due("byteAt(4, 63)", book.byteAt(4, 63), 255);
        CHECK.due("byteAt(0, 0)", book.byteAt(0, 0), 1);
    }

    private static void freeAndRoot() {
        PuzzleBook book = new PuzzleBook(6);
        CHECK.due("free()", book.free(), 3);
        Books.enter(book, 1, 10);
        CHECK.due("free() after put", book.free(), 2);
        CHECK.due("root() after put", book.root(), 2);
        Books.enter(book, 1, 10);
        CHECK.due("free() after the same row", book.free(), 2);
        CHECK.due("root() after the same row", book.root(), 2);
        Books.enter(book, 2, 11);
        Books.enter(book, 3, 12);
        CHECK.due("free() when full", book.free(), 0);
        CHECK.due("root() after three", book.root(), 2);
        book.drop(1);
        CHECK.due("free() after drop", book.free(), 1);
        CHECK.due("root() after drop", book.root(), 1);
        book.poke(0, 0, 3);
        CHECK.due("root() of an altered turn", book.root(), 1);
        CHECK.due("byteAt(0, 0) of an altered turn", book.byteAt(0, 0), 2);
        book.reopen();
        CHECK.due("root() as it was read", book.root(), 2);
        CHECK.due("free() as it was read", book.free(), 0);
    }

    private static void notOpen() {
        PuzzleBook book = new PuzzleBook(6);
        Books.enter(book, 1, 10);
        book.crash(129);
        CHECK.due("free() not open", book.free(), -1);
        CHECK.due("root() not open", book.root(), -1);
        CHECK.due("byteAt(0, 0) not open", book.byteAt(0, 0), 2);
        CHECK.dueThrow("byteAt(6, 0) not open", book, 6, 0);
    }
}
