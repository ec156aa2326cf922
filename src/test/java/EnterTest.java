/** Promises 2, 3, 4 and 5: feed, put, find and entry. */
public final class EnterTest {
    private static final Check CHECK = new Check("EnterTest");

    public static void main(String[] args) {
        feedRange();
        putWrites();
        putSameRow();
        putRefuses();
        fullBook();
        fortyEntries();
        find();
        entry();
        alteredRows();
        CHECK.end();
    }

    private static void feedRange() {
        PuzzleBook book = new PuzzleBook(8);
        for (int b : new int[] {-1, 256, Integer.MIN_VALUE, Integer.MAX_VALUE, -256}) {
            CHECK.due("feed(" + b + ")", book.feed(b), false);
        }
        CHECK.due("put(1) of nothing fed", book.put(1), -1);
        for (int i = 0; i < 48; i++) {
            CHECK.due("feed nr " + i, book.feed(i == 0 ? 0 : 256 - i), true);
        }
        CHECK.due("feed nr 48", book.feed(7), false);
        CHECK.due("put(1)", book.put(1), 0);
        CHECK.due("entry(0, 2)", book.entry(0, 2), 48);
        CHECK.due("find(1, 0)", book.find(1, 0), 0);
        CHECK.due("find(1, 1)", book.find(1, 1), 255);
        CHECK.due("find(1, 47)", book.find(1, 47), 209);
        CHECK.due("find(1, 48)", book.find(1, 48), -1);
        CHECK.due("feed after put", book.feed(7), true);
        book.crash(129);
        CHECK.due("feed not open", book.feed(8), true);
        CHECK.due("reopen()", book.reopen(), 1);
        CHECK.due("put(2)", book.put(2), 1);
        CHECK.due("what was fed stayed: how many", book.entry(1, 2), 2);
        CHECK.due("what was fed stayed: first", book.find(2, 0), 7);
        CHECK.due("what was fed stayed: second", book.find(2, 1), 8);
    }

    private static void putWrites() {
        PuzzleBook book = new PuzzleBook(6);
        book.poke(3, 40, 99);
        book.poke(2, 50, 98);
        CHECK.due("put", Books.enter(book, 0x1234, 200, 0, 255), 0);
        Books.dueBlock(CHECK, "entry's block", book, 3, Books.entryBlock(0x1234, 200, 0, 255));
        Books.dueBlock(CHECK, "other root", book, 2, Books.sealed(1, 3));
        Books.dueBlock(CHECK, "old root", book, 1, Books.sealed(0));
        CHECK.due("THE TURN", book.byteAt(0, 0), 2);
        CHECK.due("put", Books.enter(book, 65535, 1), 1);
        CHECK.due("root block 1 has two", book.byteAt(1, 0), 2);
        CHECK.due("root block 1, first", book.byteAt(1, 1), 3);
        CHECK.due("root block 1, second", book.byteAt(1, 2), 4);
        CHECK.due("root block 2 has one", book.byteAt(2, 0), 1);
        CHECK.due("THE TURN", book.byteAt(0, 0), 1);
        CHECK.due("badAt()", book.badAt(), -1);
    }

    private static void putSameRow() {
        PuzzleBook book = new PuzzleBook(8);
        Books.enter(book, 1, 5, 6);
        Books.enter(book, 2, 5);
        Books.enter(book, 3, 5, 6, 7);
        CHECK.due("longer row", Books.enter(book, 9, 5, 6, 7), 2);
        CHECK.due("shorter row", Books.enter(book, 9, 5), 1);
        CHECK.due("row between", Books.enter(book, 9, 5, 6), 0);
        CHECK.due("its name is kept", book.entry(0, 0), 1);
        CHECK.due("find(9, 0)", book.find(9, 0), -1);
        CHECK.due("nothing is fed then", book.put(9), -1);
        CHECK.due("nothing was written", book.root(), 2);
        CHECK.due("other last byte", Books.enter(book, 9, 5, 6, 8), 3);
        CHECK.due("crash of the put that wrote, behind one that did not", sameThenCrash(), true);
    }

    private static boolean sameThenCrash() {
        PuzzleBook book = new PuzzleBook(8);
        Books.enter(book, 1, 5, 6);
        Books.enter(book, 1, 5, 6);
        return book.crash(128) && book.reopen() == 0;
    }

    private static void putRefuses() {
        PuzzleBook book = new PuzzleBook(8);
        CHECK.due("put(5) of nothing", book.put(5), -1);
        Books.feed(book, 3, 4);
        for (int name : new int[] {-1, 65536, Integer.MIN_VALUE, Integer.MAX_VALUE}) {
            CHECK.due("put(" + name + ")", book.put(name), -1);
        }
        CHECK.due("what is fed stayed", book.put(0), 0);
        CHECK.due("how many bytes", book.entry(0, 2), 2);
        Books.feed(book, 3, 4);
        CHECK.due("a wrong name of a row that is there", book.put(65536), -1);
        CHECK.due("what is fed stayed then", book.put(65535), 0);
        Books.feed(book, 9);
        book.crash(129);
        CHECK.due("put(1) not open", book.put(1), -1);
        book.reopen();
        CHECK.due("what is fed stayed over that", book.put(1), 1);
        CHECK.due("find(1, 0)", book.find(1, 0), 9);
    }

    private static void fullBook() {
        PuzzleBook book = new PuzzleBook(5);
        Books.enter(book, 1, 1);
        Books.enter(book, 2, 2);
        CHECK.due("put of a new row", Books.enter(book, 3, 3), -1);
        CHECK.due("it did nothing", book.root(), 1);
        CHECK.due("what is fed stays", book.put(3), -1);
        book.drop(0);
        CHECK.due("put of it when there is a place", book.put(3), 1);
        CHECK.due("its block", book.entry(1, 1), 3);
        CHECK.due("put of a row that is there", Books.enter(book, 9, 2), 0);
    }

    private static void fortyEntries() {
        PuzzleBook book = new PuzzleBook(64);
        for (int k = 0; k < 40; k++) {
            CHECK.due("put nr " + k, Books.enter(book, k, k, 1), k);
            CHECK.due("its block", book.entry(k, 1), 3 + k);
        }
        CHECK.due("put nr 40", Books.enter(book, 40, 40, 1), -1);
        CHECK.due("free()", book.free(), 21);
        book.drop(39);
        CHECK.due("put of what stayed fed", book.put(40), 39);
        CHECK.due("put of a row that is there", Books.enter(book, 9, 17, 1), 17);
        CHECK.due("badAt()", book.badAt(), -1);
        CHECK.due("reopen()", book.reopen(), 40);
    }

    private static void find() {
        PuzzleBook book = new PuzzleBook(8);
        Books.enter(book, 300, 1, 2, 3);
        Books.enter(book, 44, 4);
        Books.enter(book, 300, 5, 6);
        Books.enter(book, 256, 7);
        CHECK.due("find(300, 0)", book.find(300, 0), 5);
        CHECK.due("find(300, 1)", book.find(300, 1), 6);
        CHECK.due("find(300, 2) of the last such entry", book.find(300, 2), -1);
        CHECK.due("find(300, -1)", book.find(300, -1), -1);
        CHECK.due("find(300, -3)", book.find(300, -3), -1);
        CHECK.due("find(300, MIN)", book.find(300, Integer.MIN_VALUE), -1);
        CHECK.due("find(300, MAX)", book.find(300, Integer.MAX_VALUE), -1);
        CHECK.due("find(44, 0)", book.find(44, 0), 4);
        CHECK.due("find(256, 0)", book.find(256, 0), 7);
        CHECK.due("find(0, 0)", book.find(0, 0), -1);
        CHECK.due("find(-1, 0)", book.find(-1, 0), -1);
        CHECK.due("find(65836, 0)", book.find(65836, 0), -1);
        book.drop(2);
        CHECK.due("find(300, 0) after drop", book.find(300, 0), 1);
        book.crash(65);
        CHECK.due("find(300, 0) not open", book.find(300, 0), -1);
    }

    private static void entry() {
        PuzzleBook book = new PuzzleBook(8);
        Books.enter(book, 0, 1, 2, 3);
        Books.enter(book, 65535, 4);
        int[][] due = {{0, 3, 3}, {65535, 4, 1}};
        for (int k = 0; k < 2; k++) {
            for (int what = 0; what < 3; what++) {
                CHECK.due("entry(" + k + ", " + what + ")", book.entry(k, what), due[k][what]);
            }
            CHECK.due("entry(" + k + ", 3)", book.entry(k, 3), -1);
            CHECK.due("entry(" + k + ", -1)", book.entry(k, -1), -1);
        }
        for (int k : new int[] {-1, 2, 40, 41, Integer.MIN_VALUE, Integer.MAX_VALUE}) {
            CHECK.due("entry(" + k + ", 1)", book.entry(k, 1), -1);
        }
        book.crash(129);
        CHECK.due("entry(0, 1) not open", book.entry(0, 1), -1);
    }

    /** An open book takes names, lengths and rows from the store as it is now. */
    private static void alteredRows() {
        PuzzleBook book = new PuzzleBook(8);
        int[] whole = Books.row(60, 48);
        Books.enter(book, 7, whole);
        Books.enter(book, 8, 1, 2);
        Books.set(book, 3, 2, 49);
        CHECK.due("49 bytes: entry(0, 2)", book.entry(0, 2), 49);
        CHECK.due("49 bytes: find(7, 47)", book.find(7, 47), 107);
        CHECK.due("49 bytes: find(7, 48)", book.find(7, 48), -1);
        CHECK.due("49 bytes: it does not tell 48", Books.enter(book, 9, whole), 2);
        Books.set(book, 3, 2, 255);
        CHECK.due("255 bytes: entry(0, 2)", book.entry(0, 2), 255);
        CHECK.due("255 bytes: find(7, 47)", book.find(7, 47), 107);
        CHECK.due("255 bytes: find(7, 60)", book.find(7, 60), -1);
        Books.set(book, 3, 2, 0);
        CHECK.due("0 bytes: entry(0, 2)", book.entry(0, 2), 0);
        CHECK.due("0 bytes: find(7, 0)", book.find(7, 0), -1);
        Books.set(book, 3, 2, 2);
        CHECK.due("an altered length has the row", Books.enter(book, 9, 60, 61), 0);
        Books.set(book, 3, 4, 5);
        CHECK.due("an altered row", Books.enter(book, 9, 60, 5), 0);
        Books.set(book, 4, 0, 7);
        CHECK.due("an altered name", book.find(7, 0), 1);
        CHECK.due("an altered name is told", book.entry(1, 0), 7);
        Books.set(book, 4, 1, 255);
        CHECK.due("an altered upper byte of a name", book.entry(1, 0), 0xFF07);
    }
}
