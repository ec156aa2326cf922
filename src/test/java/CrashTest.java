/** Promises 7 and 8: crash and reopen. */
public final class CrashTest {
    private static final Check CHECK = new Check("CrashTest");

    public static void main(String[] args) {
        for (int kept = 0; kept <= 129; kept++) {
            cutOffPut(kept);
        }
        for (int kept = 0; kept <= 65; kept++) {
            cutOffDrop(kept);
        }
        crashRefuses();
        crashAndPoke();
        reopenTurn();
        reopenRoot();
        reopenEntries();
        reopenLeast();
        CHECK.end();
    }

    /** A book of five blocks whose blocks 1 and 4, which the change writes, have been written before. */
    private static PuzzleBook used() {
        PuzzleBook book = new PuzzleBook(5);
        Books.enter(book, 1, 11);
        Books.enter(book, 2, Books.row(100, 48));
        book.drop(1);
        Books.enter(book, 2, Books.row(120, 40));
        book.drop(1);
        return book;
    }

    private static int[] changed(PuzzleBook book, boolean withEntry) {
        int[] bytes = new int[withEntry ? 129 : 65];
        int at = 0;
        if (withEntry) {
            System.arraycopy(Books.block(book, 4), 0, bytes, 0, 64);
            at = 64;
        }
        System.arraycopy(Books.block(book, 1), 0, bytes, at, 64);
        bytes[at + 64] = book.byteAt(0, 0);
        return bytes;
    }

    private static void dueMix(String what, int[] before, int[] after, int kept, int[] now) {
        for (int n = 0; n < now.length; n++) {
            CHECK.due(what + ", written byte " + n, now[n], n < kept ? after[n] : before[n]);
        }
    }

    private static void cutOffPut(int kept) {
        String what = "put cut off at " + kept;
        int[] before = changed(used(), true);
        PuzzleBook whole = used();
        CHECK.due("root before", whole.root(), 2);
        Books.enter(whole, 0xABCD, Books.row(200, 48));
        int[] after = changed(whole, true);
        PuzzleBook book = used();
        Books.enter(book, 0xABCD, Books.row(200, 48));
        CHECK.due(what, book.crash(kept), true);
        CHECK.due(what + ": again", book.crash(kept), false);
        dueMix(what, before, after, kept, changed(book, true));
        CHECK.due(what + ": root()", book.root(), -1);
        CHECK.due(what + ": reopen()", book.reopen(), kept < 129 ? 1 : 2);
        CHECK.due(what + ": find", book.find(0xABCD, 47), kept < 129 ? -1 : 247);
        CHECK.due(what + ": badAt()", book.badAt(), -1);
    }

    private static void cutOffDrop(int kept) {
        String what = "drop cut off at " + kept;
        int[] before = changed(used(), false);
        PuzzleBook whole = used();
        whole.drop(0);
        int[] after = changed(whole, false);
        PuzzleBook book = used();
        book.drop(0);
        CHECK.due(what, book.crash(kept), true);
        dueMix(what, before, after, kept, changed(book, false));
        CHECK.due(what + ": badAt()", book.badAt(), -1);
        CHECK.due(what + ": reopen()", book.reopen(), kept < 65 ? 1 : 0);
        CHECK.due(what + ": find", book.find(1, 0), kept < 65 ? 11 : -1);
    }

    private static void crashRefuses() {
        PuzzleBook book = new PuzzleBook(8);
        CHECK.due("crash(0) of a new book", book.crash(0), false);
        CHECK.due("it is open", book.root(), 1);
        Books.enter(book, 1, 1);
        for (int kept : new int[] {-1, 130, Integer.MIN_VALUE, Integer.MAX_VALUE}) {
            CHECK.due("crash(" + kept + ") of a put", book.crash(kept), false);
        }
        CHECK.due("it is still open", book.root(), 2);
        book.drop(0);
        CHECK.due("crash(66) of a drop", book.crash(66), false);
        CHECK.due("crash(-1) of a drop", book.crash(-1), false);
        CHECK.due("drop(0) of none", book.drop(0), false);
        CHECK.due("crash(64) behind a drop that wrote nothing", book.crash(64), true);
        CHECK.due("crash(0) not open", book.crash(0), false);
        CHECK.due("reopen()", book.reopen(), 1);
        CHECK.due("crash(0) since it was opened", book.crash(0), false);
        Books.enter(book, 1, 2);
        CHECK.due("reopen() of an open book", book.reopen(), 2);
        CHECK.due("crash(0) since it was opened again", book.crash(0), false);
        book.poke(4, 0, 1);
        CHECK.due("crash(0) since a poke alone", book.crash(0), false);
    }

    /** Of the written bytes alone, those behind the kept ones are as before; pokes else stay. */
    private static void crashAndPoke() {
        PuzzleBook book = new PuzzleBook(8);
        book.poke(3, 63, 9);
        Books.enter(book, 1, 1);
        int sumByte = book.byteAt(3, 0);
        book.poke(3, 0, 128);
        book.poke(3, 63, 128);
        book.poke(5, 5, 5);
        book.poke(0, 0, 64);
        CHECK.due("crash(1)", book.crash(1), true);
        CHECK.due("a kept byte", book.byteAt(3, 0), sumByte ^ 128);
        CHECK.due("a byte that is not kept", book.byteAt(3, 63), 9);
        CHECK.due("a byte that was not written", book.byteAt(5, 5), 5);
        CHECK.due("THE TURN", book.byteAt(0, 0), 1);
        CHECK.due("reopen()", book.reopen(), 0);
    }

    private static void reopenTurn() {
        for (int turn : new int[] {0, 3, 4, 127, 128, 129, 130, 255}) {
            PuzzleBook book = new PuzzleBook(8);
            Books.enter(book, 1, 1);
            Books.set(book, 0, 0, turn);
            CHECK.due("reopen() of turn " + turn, book.reopen(), -1);
            CHECK.due("it is not open", book.free(), -1);
            Books.reseal(book, 0);
            CHECK.due("reopen() of turn " + turn + ", block 0 with a sum", book.reopen(), -1);
            CHECK.due("it is not open then", book.root(), -1);
            Books.set(book, 0, 0, 1);
            CHECK.due("reopen() of the root before", book.reopen(), 0);
            CHECK.due("root()", book.root(), 1);
            Books.set(book, 0, 0, 2);
            CHECK.due("reopen() of the root", book.reopen(), 1);
        }
    }

    private static PuzzleBook three(int blocks) {
        PuzzleBook book = new PuzzleBook(blocks);
        Books.enter(book, 1, 1);
        Books.enter(book, 2, 2, 3);
        Books.enter(book, 3, Books.row(4, 48));
        return book;
    }

    private static void rootWith(String what, int i, int value, int due) {
        PuzzleBook book = three(8);
        Books.set(book, 2, i, value);
        Books.reseal(book, 2);
        CHECK.due("reopen() of " + what, book.reopen(), due);
        CHECK.due("root() of " + what, book.root(), due < 0 ? -1 : 2);
        CHECK.due("free() of " + what, book.free(), due < 0 ? -1 : 5 - due);
    }

    private static void reopenRoot() {
        for (int i = 0; i < 64; i++) {
            PuzzleBook book = three(8);
            book.poke(2, i, 1 << i % 8);
            CHECK.due("reopen() of an altered root, byte " + i, book.reopen(), -3);
            book.poke(2, i, 1 << i % 8);
            CHECK.due("reopen() of it mended", book.reopen(), 3);
        }
        rootWith("a root of 41 entries", 0, 41, -3);
        rootWith("a root of 255 entries", 0, 255, -3);
        rootWith("a root of one entry more, block 0", 0, 4, -3);
        rootWith("a root of two", 0, 2, 2);
        rootWith("a root of none", 0, 0, 0);
        rootWith("a block that is none", 2, 8, -3);
        rootWith("a block that is none, 255", 2, 255, -3);
        rootWith("block 2", 1, 2, -3);
        rootWith("block 0", 3, 0, -3);
        rootWith("one twice", 3, 3, -3);
        rootWith("one twice side by side", 2, 3, -3);
        rootWith("a free block, all 0", 2, 7, -8);
        rootWith("a byte that is not 0 behind", 59, 1, 3);
        rootOfForty();
    }

    private static void rootOfForty() {
        PuzzleBook book = new PuzzleBook(64);
        for (int k = 0; k < 40; k++) {
            Books.enter(book, k, k, 9);
        }
        CHECK.due("reopen() of 40", book.reopen(), 40);
        CHECK.due("entry(39, 1)", book.entry(39, 1), 42);
        book.poke(1, 0, 40 ^ 41);
        book.poke(1, 41, 63);
        Books.reseal(book, 1);
        CHECK.due("reopen() of 41 blocks, all different", book.reopen(), -2);
    }

    private static void reopenEntries() {
        for (int i = 0; i < 64; i++) {
            PuzzleBook book = three(8);
            book.poke(4, i, 128 >> i % 8);
            CHECK.due("reopen() of an altered entry, byte " + i, book.reopen(), -5);
            CHECK.due("it is not open", book.root(), -1);
            book.poke(4, i, 128 >> i % 8);
            CHECK.due("reopen() of it mended", book.reopen(), 3);
        }
        int[][] lengthAndDue = {{0, -6}, {1, 3}, {47, 3}, {48, 3}, {49, -6}, {128, -6}, {255, -6}};
        for (int[] pair : lengthAndDue) {
            PuzzleBook book = three(8);
            Books.set(book, 5, 2, pair[0]);
            Books.reseal(book, 5);
            CHECK.due("reopen() of an entry of " + pair[0] + " bytes", book.reopen(), pair[1]);
        }
    }

    private static void reopenLeast() {
        PuzzleBook book = new PuzzleBook(8);
        for (int k = 0; k < 3; k++) {
            Books.enter(book, k, k);
        }
        book.drop(0);
        Books.enter(book, 9, 9);
        CHECK.due("the last entry has the least block", book.entry(2, 1), 3);
        book.poke(5, 9, 1);
        CHECK.due("reopen() of one", book.reopen(), -6);
        book.poke(3, 9, 1);
        CHECK.due("reopen() of two", book.reopen(), -4);
        book.poke(2, 9, 1);
        CHECK.due("reopen() of those and the root", book.reopen(), -3);
        book.poke(1, 9, 1);
        CHECK.due("the other root is not looked at", book.reopen(), -3);
        book.poke(0, 0, 8);
        CHECK.due("reopen() of all", book.reopen(), -1);
        book.poke(0, 0, 8);
        book.poke(2, 9, 1);
        book.poke(3, 9, 1);
        book.poke(5, 9, 1);
        book.poke(7, 9, 1);
        CHECK.due("a free block is not looked at", book.reopen(), 3);
    }
}
