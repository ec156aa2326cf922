import java.util.function.Supplier;

/** Promise 2: feed. */
public final class FeedTest {
    private static final Check CHECK = new Check("FeedTest");

    public static void main(String[] args) {
        aByteComes();
        notAByte();
        thereAre48();
        notOpen();
        CHECK.end();
    }

    private static void aByteComes() {
        CHECK.sentence("A byte comes to the row that is fed: true");
        for (int b = 0; b <= 255; b++) {
            PuzzleBook book = new PuzzleBook(4);
            CHECK.due("feed(9)", book.feed(9), true);
            CHECK.due("feed(" + b + ")", book.feed(b), true);
            book.put(1);
            CHECK.due("how many bytes", book.entry(0, 2), 2);
            CHECK.due("the first", book.find(1, 0), 9);
            CHECK.due("the byte behind it", book.find(1, 1), b);
        }
    }

    private static void notAByte() {
        CHECK.sentence("false, doing nothing, when it is not 0 to 255");
        for (int b : Books.andFar(-1, 256, -255, 257, 511, 512)) {
            Twins.dueNothing(CHECK, "feed(" + b + ")", Books::three, book -> fed(book, b), 0);
            Twins.dueNothing(CHECK, "feed(" + b + ") behind one", () -> withFed(1), book -> fed(book, b), 0);
        }
    }

    private static void thereAre48() {
        CHECK.sentence("false, doing nothing, when there are 48");
        PuzzleBook book = new PuzzleBook(4);
        for (int n = 1; n <= 48; n++) {
            CHECK.due("feed nr " + n, book.feed(n), true);
        }
        CHECK.due("feed nr 49", book.feed(49), false);
        CHECK.due("put(1)", book.put(1), 0);
        CHECK.due("entry(0, 2)", book.entry(0, 2), 48);
        CHECK.due("find(1, 47)", book.find(1, 47), 48);
        for (int b : new int[] {0, 49, 255, -1, 256}) {
            Twins.dueNothing(CHECK, "feed(" + b + ") behind 48", () -> withFed(48), with -> fed(with, b), 0);
        }
    }

    private static void notOpen() {
        CHECK.sentence("A byte comes to the row that is fed, in a book that is not open too");
        for (Supplier<PuzzleBook> maker : java.util.List.<Supplier<PuzzleBook>>of(Books::cutOff, Books::refused)) {
            PuzzleBook book = maker.get();
            CHECK.due("feed(9)", book.feed(9), true);
            CHECK.due("feed(256)", book.feed(256), false);
            Books.set(book, 0, 0, 2);
            CHECK.due("reopen()", book.reopen(), 1);
            CHECK.due("put(5)", book.put(5), 1);
            CHECK.due("how many bytes", book.entry(1, 2), 3);
            CHECK.due("the last", book.find(5, 2), 9);
        }
    }

    private static PuzzleBook withFed(int count) {
        PuzzleBook book = Books.full();
        Books.feed(book, Books.row(60, count));
        return book;
    }

    private static long fed(PuzzleBook book, int b) {
        return book.feed(b) ? 1 : 0;
    }
}
