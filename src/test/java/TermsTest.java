/** What the document says under Terms: the store, its blocks and sums, entering and dropping byte by byte. */
public final class TermsTest {
    private static final Check CHECK = new Check("TermsTest");

    public static void main(String[] args) {
        newStore();
        newBook();
        turn();
        rootOfNoneAndSome();
        rootOfForty();
        names();
        rows();
        restIsZero();
        restIsZeroBehindLongerRows();
        sumsWorkedOut();
        sumOfEachByte();
        numbersFromZero();
        freeBlocks();
        leastFreeBlock();
        countingBlocksAreNotWritten();
        enteringByteByByte();
        droppingByteByByte();
        fiveHundredAndTwelveCalls();
        CHECK.end();
    }

    private static void newStore() {
        CHECK.sentence("BLOCKS of 64 bytes each (0 at first)");
        int[] turn = new int[64];
        turn[0] = 1;
        for (int block = 0; block < 64; block++) {
            int[] want = block == 0 ? turn : block == 1 ? Books.sealed() : new int[64];
            Books.dueBlock(CHECK, "new", new PuzzleBook(64), block, want);
        }
        CHECK.dueThrow("byte 64 of the last block", new PuzzleBook(64), 63, 64);
    }

    private static void newBook() {
        CHECK.sentence("A new book is opened with THE TURN 1 and no entries (the root block's sum is written)");
        PuzzleBook book = new PuzzleBook(8);
        CHECK.due("root()", book.root(), 1);
        CHECK.due("byteAt(0, 0)", book.byteAt(0, 0), 1);
        CHECK.due("byteAt(1, 0)", book.byteAt(1, 0), 0);
        CHECK.due("entry(0, 1)", book.entry(0, 1), -1);
        CHECK.due("badAt()", book.badAt(), -1);
        CHECK.due("reopen()", book.reopen(), 0);
    }

    private static void turn() {
        CHECK.sentence("THE TURN: 1 or 2, which of the blocks 1 and 2 is THE ROOT");
        PuzzleBook book = new PuzzleBook(8);
        for (int n = 1; n <= 8; n++) {
            if (n % 3 == 0) {
                book.drop(0);
            } else {
                Books.enter(book, n, n);
            }
            int due = n % 2 == 0 ? 1 : 2;
            CHECK.due("THE TURN behind change " + n, book.byteAt(0, 0), due);
            CHECK.due("root() behind change " + n, book.root(), due);
            CHECK.due("entries of that root", book.byteAt(due, 0), 5 - book.free());
        }
        for (int i = 1; i < 64; i++) {
            CHECK.due("byteAt(0, " + i + ")", book.byteAt(0, i), 0);
        }
    }

    private static void rootOfNoneAndSome() {
        CHECK.sentence("A root block: byte 0 how many ENTRIES (0 to 40), then of each its block, in order");
        PuzzleBook book = new PuzzleBook(6);
        Books.enter(book, 9, 9);
        Books.dueBlock(CHECK, "one", book, 2, Books.sealed(1, 3));
        book.drop(0);
        Books.dueBlock(CHECK, "none again", book, 1, Books.sealed(0));
        Books.dueBlock(CHECK, "out of order", Books.outOfOrder(), 2, Books.sealed(3, 4, 5, 3));
    }

    private static void rootOfForty() {
        CHECK.sentence("A root block of 40 entries; all others up to byte 59 are 0");
        int[] start = Books.row(2, 41);
        start[0] = 40;
        Books.dueBlock(CHECK, "forty", Books.forty(), 1, Books.sealed(start));
    }

    private static void names() {
        CHECK.sentence("bytes 0 and 1 its NAME (0 to 65,535, the lower byte first)");
        for (int name : new int[] {0, 1, 127, 128, 255, 256, 257, 32767, 32768, 65280, 65534, 65535}) {
            PuzzleBook book = new PuzzleBook(4);
            CHECK.due("put(" + name + ")", Books.enter(book, name, 5), 0);
            CHECK.due("lower byte of " + name, book.byteAt(3, 0), name % 256);
            CHECK.due("upper byte of " + name, book.byteAt(3, 1), name / 256);
            CHECK.due("entry(0, 0)", book.entry(0, 0), name);
        }
    }

    private static void rows() {
        CHECK.sentence("byte 2 how many bytes its ROW has (1 to 48), then these");
        for (int count : new int[] {1, 2, 47, 48}) {
            PuzzleBook book = new PuzzleBook(4);
            int[] row = Books.row(250, count);
            CHECK.due("put of " + count, Books.enter(book, 513, row), 0);
            Books.dueBlock(CHECK, "row of " + count, book, 3, Books.entryBlock(513, row));
        }
    }

    private static void restIsZero() {
        CHECK.sentence("All others up to byte 59 are 0, where there was something before too");
        PuzzleBook book = new PuzzleBook(4);
        for (int i = 0; i < 64; i++) {
            book.poke(2, i, 255);
            book.poke(3, i, 255);
        }
        Books.enter(book, 258, 6);
        Books.dueBlock(CHECK, "entry's block", book, 3, Books.entryBlock(258, 6));
        Books.dueBlock(CHECK, "root block", book, 2, Books.sealed(1, 3));
    }

    private static void restIsZeroBehindLongerRows() {
        CHECK.sentence("All others up to byte 59 are 0, where a longer row or root was before");
        PuzzleBook book = new PuzzleBook(5);
        Books.enter(book, 1, Books.row(1, 48));
        Books.enter(book, 2, 6);
        Books.dueBlock(CHECK, "one byte behind 48", book, 4, Books.entryBlock(2, 6));
        book.drop(0);
        Books.enter(book, 3, 7, 8);
        Books.dueBlock(CHECK, "two bytes over 48", book, 3, Books.entryBlock(3, 7, 8));
        book.drop(0);
        book.drop(0);
        Books.dueBlock(CHECK, "no entries over two", book, 1, Books.sealed(0));
    }

    /** These sums were worked out by another program, in another language. */
    private static void sumsWorkedOut() {
        CHECK.sentence("Bytes 60 to 63 have its SUM, the lowest byte first");
        int[] all255 = new int[48];
        java.util.Arrays.fill(all255, 255);
        PuzzleBook book = new PuzzleBook(4);
        dueSum("no entries", book, 1, 34, 136, 82, 144);
        Books.enter(book, 300, 1, 2);
        dueSum("one entry", book, 2, 53, 21, 159, 27);
        dueSum("two bytes by the name 300", book, 3, 75, 154, 240, 9);
        PuzzleBook large = new PuzzleBook(4);
        Books.enter(large, 65535, all255);
        dueSum("48 bytes 255 by the name 65535", large, 3, 163, 168, 93, 206);
        dueSum("forty entries", Books.forty(), 1, 115, 250, 17, 211);
    }

    private static void dueSum(String what, PuzzleBook book, int block, int... want) {
        for (int i = 0; i < 4; i++) {
            CHECK.due(what + ": sum byte " + i, book.byteAt(block, 60 + i), want[i]);
        }
    }

    private static void sumOfEachByte() {
        CHECK.sentence("s xor the byte (0 to 255) for bytes 0 to 59: each of them, and each of the sum's, counts");
        for (int i = 0; i < 64; i++) {
            PuzzleBook book = new PuzzleBook(4);
            Books.enter(book, 1, 1);
            book.poke(3, i, 128);
            CHECK.due("badAt() of byte " + i, book.badAt(), 3);
            Books.reseal(book, 3);
            CHECK.due("badAt() of byte " + i + " with its sum", book.badAt(), -1);
        }
    }

    private static void numbersFromZero() {
        CHECK.sentence("the ENTRIES of the root, numbered from 0 on");
        PuzzleBook book = Books.three();
        CHECK.due("entry(-1, 1)", book.entry(-1, 1), -1);
        for (int k = 0; k < 3; k++) {
            CHECK.due("entry(" + k + ", 1)", book.entry(k, 1), 3 + k);
        }
        CHECK.due("entry(3, 1)", book.entry(3, 1), -1);
    }

    private static void freeBlocks() {
        CHECK.sentence("FREE are the blocks from 3 on that no entry of it has");
        PuzzleBook book = new PuzzleBook(4);
        CHECK.due("free() of four blocks", book.free(), 1);
        CHECK.due("put", Books.enter(book, 1, 1), 0);
        CHECK.due("its block", book.entry(0, 1), 3);
        CHECK.due("no block is free then", book.free(), 0);
        book.drop(0);
        CHECK.due("a dropped entry's block is free", book.free(), 1);
    }

    private static void leastFreeBlock() {
        CHECK.sentence("ENTERING a row writes: the least free block");
        PuzzleBook book = new PuzzleBook(8);
        for (int k = 0; k < 5; k++) {
            Books.enter(book, k, k);
            CHECK.due("block of entry " + k, book.entry(k, 1), 3 + k);
        }
        book.drop(4);
        book.drop(2);
        book.drop(0);
        for (int block : new int[] {3, 5, 7}) {
            int k = Books.enter(book, 9, block, 9);
            CHECK.due("a block that came free", book.entry(k, 1), block);
        }
    }

    private static void countingBlocksAreNotWritten() {
        CHECK.sentence("blocks are never written over while they count");
        PuzzleBook book = new PuzzleBook(6);
        Books.enter(book, 1, 1);
        Books.enter(book, 2, 2);
        for (int block : new int[] {1, 3, 4}) {
            book.poke(block, 55, 99);
        }
        int[] root = Books.block(book, 1);
        Books.enter(book, 3, 3);
        Books.dueBlock(CHECK, "the root before put", book, 1, root);
        CHECK.due("an entry's block behind put", book.byteAt(3, 55), 99);
        book.poke(2, 55, 98);
        root = Books.block(book, 2);
        book.drop(0);
        Books.dueBlock(CHECK, "the root before drop", book, 2, root);
        CHECK.due("the dropped entry's block", book.byteAt(3, 55), 99);
        CHECK.due("another entry's block", book.byteAt(4, 55), 99);
    }

    /** Blocks 1 and 4, which the change will write, have something else before; THE TURN is 2. */
    private static PuzzleBook used() {
        PuzzleBook book = new PuzzleBook(5);
        Books.enter(book, 1, 11);
        for (int i = 0; i < 64; i++) {
            book.poke(1, i, 170 + i);
            book.poke(4, i, 100 + i);
        }
        return book;
    }

    private static void enteringByteByByte() {
        CHECK.sentence("ENTERING: the block, the other root block, THE TURN: 129 bytes, one after the other");
        int[] row = Books.row(200, 48);
        for (int kept = 0; kept <= 129; kept++) {
            PuzzleBook book = used();
            int[] free = Books.block(book, 4);
            int[] root = Books.block(book, 1);
            Books.enter(book, 0xABCD, row);
            CHECK.due("crash(" + kept + ")", book.crash(kept), true);
            dueCut("entry's block cut off at " + kept, book, 4, free, Books.entryBlock(0xABCD, row), kept);
            int inRoot = kept - 64;
            dueCut("other root cut off at " + kept, otherBook(kept, row), 1, root, Books.sealed(2, 3, 4), inRoot);
            CHECK.due("THE TURN, cut off at " + kept, book.byteAt(0, 0), kept < 129 ? 2 : 1);
        }
    }

    private static PuzzleBook otherBook(int kept, int[] row) {
        PuzzleBook book = used();
        Books.enter(book, 0xABCD, row);
        book.crash(kept);
        return book;
    }

    private static void droppingByteByByte() {
        CHECK.sentence("DROPPING: the other root block without that entry, THE TURN: 65 bytes");
        for (int kept = 0; kept <= 65; kept++) {
            PuzzleBook book = used();
            int[] root = Books.block(book, 1);
            book.drop(0);
            CHECK.due("crash(" + kept + ")", book.crash(kept), true);
            dueCut("other root cut off at " + kept, book, 1, root, Books.sealed(0), kept);
            CHECK.due("THE TURN, cut off at " + kept, book.byteAt(0, 0), kept < 65 ? 2 : 1);
        }
    }

    private static void fiveHundredAndTwelveCalls() {
        CHECK.sentence("An object is used for at most 512 calls");
        PuzzleBook book = new PuzzleBook(4);
        for (int n = 0; n < 170; n++) {
            CHECK.due("feed nr " + n, book.feed(n), true);
            CHECK.due("put nr " + n, book.put(65535 - n), 0);
            CHECK.due("drop nr " + n, book.drop(0), true);
        }
        CHECK.due("call 511: crash(64)", book.crash(64), true);
        CHECK.due("call 512: reopen()", book.reopen(), 1);
    }

    private static void dueCut(String what, PuzzleBook book, int block, int[] before, int[] after, int kept) {
        int[] want = before.clone();
        System.arraycopy(after, 0, want, 0, Math.max(0, Math.min(64, kept)));
        Books.dueBlock(CHECK, what, book, block, want);
    }
}
