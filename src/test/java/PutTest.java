/** Promise 3: put. */
public final class PutTest {
    private static final Check CHECK = new Check("PutTest");

    public static void main(String[] args) {
        entersByAName();
        sameRow();
        firstOfTwo();
        entriesAlone();
        tellsAsManyBytes();
        alike();
        nothingWritten();
        keepsItsName();
        nothingFedThen();
        notOpen();
        nameIsNotSo();
        nothingFed();
        fortyEntries();
        noBlockFree();
        noBlockFreeButTheRow();
        CHECK.end();
    }

    private static void entersByAName() {
        CHECK.sentence("The row that is fed is entered by a name: its entry's number");
        PuzzleBook book = new PuzzleBook(64);
        for (int k = 0; k < 40; k++) {
            CHECK.due("put nr " + k, Books.enter(book, 65535 - k, k, 255), k);
        }
        book.drop(7);
        CHECK.due("put behind a drop", Books.enter(book, 0, 77), 39);
        CHECK.due("its name", book.entry(39, 0), 0);
        CHECK.due("the one before it", book.entry(38, 0), 65535 - 39);
        CHECK.due("find of the first", book.find(65535, 1), 255);
        CHECK.due("a name that there is already", Books.enter(Books.three(), 300, 99), 3);
    }

    private static void sameRow() {
        CHECK.sentence("of the first entry with the same row that number");
        PuzzleBook book = Books.three();
        CHECK.due("row of 3", Books.enter(book, 300, 1, 2, 3), 0);
        CHECK.due("row of 1", Books.enter(book, 9, 4), 1);
        CHECK.due("row of 48", Books.enter(book, 65535, Books.row(5, 48)), 2);
        book.drop(0);
        CHECK.due("row of 48 with one number less", Books.enter(book, 9, Books.row(5, 48)), 1);
        CHECK.due("a dropped row is entered again", Books.enter(book, 9, 1, 2, 3), 2);
    }

    private static void firstOfTwo() {
        CHECK.sentence("the first entry, of several that have the row");
        PuzzleBook book = Books.outOfOrder();
        Books.set(book, 3, 3, 13);
        CHECK.due("entry 1 in block 5, entry 2 in block 3", Books.enter(book, 9, 13), 1);
        Books.set(book, 4, 3, 13);
        CHECK.due("entry 0 in block 4 too", Books.enter(book, 9, 13), 0);
    }

    private static void entriesAlone() {
        CHECK.sentence("an entry with the same row: no other block counts, whatever row it seems to have");
        for (int block : new int[] {0, 1, 2, 6, 7}) {
            PuzzleBook book = Books.three();
            Books.set(book, block, 2, 1);
            Books.set(book, block, 3, 9);
            CHECK.due("put of what block " + block + " seems to have", Books.enter(book, 5, 9), 3);
        }
        PuzzleBook book = new PuzzleBook(4);
        Books.set(book, 0, 2, 1);
        CHECK.due("put of what block 0 seems to have, no entries", Books.enter(book, 5, 0), 0);
        CHECK.due("free()", book.free(), 0);
    }

    private static void tellsAsManyBytes() {
        CHECK.sentence("it tells as many bytes as are fed");
        PuzzleBook book = new PuzzleBook(12);
        Books.enter(book, 1, 5, 6, 0);
        CHECK.due("one byte less", Books.enter(book, 2, 5, 6), 1);
        CHECK.due("one byte more, 0", Books.enter(book, 3, 5, 6, 0, 0), 2);
        int[] row = Books.row(60, 48);
        Books.enter(book, 4, row);
        for (int told : new int[] {49, 51, 128, 255, 47, 0}) {
            Books.set(book, 6, 2, told);
            CHECK.due("48 fed, " + told + " told", putAndTakeBack(book, row), 4);
        }
        Books.set(book, 6, 2, 48);
        CHECK.due("48 fed, 48 told", Books.enter(book, 9, row), 3);
        Books.set(book, 6, 2, 2);
        CHECK.due("2 fed, 2 told", Books.enter(book, 9, 60, 61), 3);
    }

    private static int putAndTakeBack(PuzzleBook book, int[] row) {
        int k = Books.enter(book, 9, row);
        book.drop(k);
        return k;
    }

    private static void alike() {
        CHECK.sentence("and these are alike");
        PuzzleBook book = new PuzzleBook(12);
        int[] row = Books.row(100, 48);
        Books.enter(book, 1, row);
        for (int i : new int[] {0, 1, 46, 47}) {
            int[] other = row.clone();
            other[i] ^= 128;
            CHECK.due("another byte " + i, putAndTakeBack(book, other), 1);
        }
        CHECK.due("none other", Books.enter(book, 2, row), 0);
        Books.set(book, 3, 3 + 48, 9);
        CHECK.due("a byte behind the row does not count", Books.enter(book, 2, row), 0);
        Books.set(book, 3, 3 + 47, 9);
        CHECK.due("an altered byte of the row does", Books.enter(book, 2, row), 1);
    }

    private static void nothingWritten() {
        CHECK.sentence("that number, nothing being written");
        Twins.dueNothing(CHECK, "put of row 0", Books::three, book -> Books.enter(book, 9, 1, 2, 3), 0);
        Twins.dueNothing(CHECK, "put of row 2", Books::three, book -> Books.enter(book, 9, Books.row(5, 48)), 2);
        Twins.dueNothing(CHECK, "put behind a drop", PutTest::dropped, book -> Books.enter(book, 9, 4), 0);
    }

    private static PuzzleBook dropped() {
        PuzzleBook book = Books.three();
        book.drop(0);
        return book;
    }

    private static void keepsItsName() {
        CHECK.sentence("(it keeps its name)");
        PuzzleBook book = Books.three();
        Books.enter(book, 9, 4);
        CHECK.due("entry(1, 0)", book.entry(1, 0), 44);
        CHECK.due("find(44, 0)", book.find(44, 0), 4);
        CHECK.due("find(9, 0)", book.find(9, 0), -1);
    }

    private static void nothingFedThen() {
        CHECK.sentence("The row that is fed has no bytes then");
        PuzzleBook book = new PuzzleBook(6);
        Books.enter(book, 1, 1, 2);
        CHECK.due("put again", book.put(1), -1);
        CHECK.due("put behind one that entered", Books.enter(book, 2, 3), 1);
        CHECK.due("its bytes", book.entry(1, 2), 1);
        CHECK.due("put of a row that is there", Books.enter(book, 2, 1, 2), 0);
        CHECK.due("put again", book.put(1), -1);
        for (int n = 0; n < 48; n++) {
            CHECK.due("feed nr " + n + " behind that", book.feed(n), true);
        }
        CHECK.due("feed nr 48", book.feed(1), false);
    }

    private static void notOpen() {
        CHECK.sentence("-1, doing nothing, when the book is not open");
        Twins.dueNothing(CHECK, "put(5) of a cut off book", Books::cutOff, book -> book.put(5), -1);
        Twins.dueNothing(CHECK, "put(5) of a refused book", Books::refused, book -> book.put(5), -1);
        Twins.dueNothing(CHECK, "put(5) of a row that is there", PutTest::cutOffWithRow, book -> book.put(5), -1);
    }

    private static PuzzleBook cutOffWithRow() {
        PuzzleBook book = Books.full();
        Books.feed(book, 11);
        book.crash(129);
        return book;
    }

    private static void nameIsNotSo() {
        CHECK.sentence("-1, doing nothing, when the name is not so");
        for (int name : Books.andFar(-1, 65536, 65537, 65836, -65535)) {
            Twins.dueNothing(CHECK, "put(" + name + ")", () -> threeWithFed(9), book -> book.put(name), -1);
            Twins.dueNothing(
                    CHECK, "put(" + name + ") of a row that is there", () -> threeWithFed(4), book -> book.put(name), -1);
        }
        CHECK.due("put(0)", threeWithFed(9).put(0), 3);
        CHECK.due("put(65535)", threeWithFed(9).put(65535), 3);
    }

    private static PuzzleBook threeWithFed(int b) {
        PuzzleBook book = Books.three();
        book.feed(b);
        return book;
    }

    private static void nothingFed() {
        CHECK.sentence("-1, doing nothing, when nothing is fed");
        Twins.dueNothing(CHECK, "put(5)", Books::three, book -> book.put(5), -1);
        Twins.dueNothing(CHECK, "put(5) of a new book", () -> new PuzzleBook(4), book -> book.put(5), -1);
        Twins.dueNothing(CHECK, "put(5), an entry telling 0", PutTest::tellingZero, book -> book.put(5), -1);
        CHECK.due("one byte 0 is something", Books.enter(Books.three(), 5, 0), 3);
    }

    private static PuzzleBook tellingZero() {
        PuzzleBook book = Books.three();
        Books.set(book, 4, 2, 0);
        return book;
    }

    private static void fortyEntries() {
        CHECK.sentence("-1, doing nothing, when there are 40 entries");
        Twins.dueNothing(CHECK, "put(5)", PutTest::fortyWithFed, book -> book.put(5), -1);
        PuzzleBook book = fortyWithFed();
        CHECK.due("free()", book.free(), 21);
        book.drop(20);
        CHECK.due("put(5) behind a drop", book.put(5), 39);
        CHECK.due("its block", book.entry(39, 1), 23);
        CHECK.due("reopen()", book.reopen(), 40);
    }

    private static PuzzleBook fortyWithFed() {
        PuzzleBook book = Books.forty();
        Books.feed(book, 1, 2, 3);
        return book;
    }

    private static void noBlockFree() {
        CHECK.sentence("-1, doing nothing, when no block is free");
        Twins.dueNothing(CHECK, "put(5)", PutTest::fullWithFed, book -> book.put(5), -1);
        PuzzleBook book = fullWithFed();
        CHECK.due("put(5)", book.put(5), -1);
        book.drop(0);
        CHECK.due("put(5) behind a drop", book.put(5), 1);
        CHECK.due("its block", book.entry(1, 1), 3);
        CHECK.due("its bytes", book.entry(1, 2), 3);
    }

    private static PuzzleBook fullWithFed() {
        PuzzleBook book = Books.full();
        Books.feed(book, 1, 2, 3);
        return book;
    }

    private static void noBlockFreeButTheRow() {
        CHECK.sentence("(and no entry has the row)");
        Twins.dueNothing(CHECK, "put of row 1, no block free", Books::full, book -> Books.enter(book, 9, 12), 1);
        Twins.dueNothing(CHECK, "put of row 39, 40 entries", Books::forty, book -> Books.enter(book, 9, 139), 39);
    }
}
