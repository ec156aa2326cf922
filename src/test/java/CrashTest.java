import java.util.function.Supplier;

/** Promise 7: crash. */
public final class CrashTest {
    private static final Check CHECK = new Check("CrashTest");

    public static void main(String[] args) {
        putOpensWithOrWithout();
        dropOpensWithOrWithout();
        latestChange();
        latestThatWrote();
        asBefore();
        onlyWrittenBytes();
        notOpenThen();
        fedStays();
        notOpen();
        nothingWrittenSinceOpened();
        notSoManyBytes();
        CHECK.end();
    }

    private static void putOpensWithOrWithout() {
        CHECK.sentence("of the bytes that put() wrote, the first so many stay: 0 to 129");
        for (int kept = 0; kept <= 129; kept++) {
            PuzzleBook book = Books.three();
            Books.enter(book, 7, 70, 71);
            CHECK.due("crash(" + kept + ")", book.crash(kept), true);
            CHECK.due("reopen() behind crash(" + kept + ")", book.reopen(), kept < 129 ? 3 : 4);
            CHECK.due("find(7, 1) behind crash(" + kept + ")", book.find(7, 1), kept < 129 ? -1 : 71);
            CHECK.due("find(300, 47) behind crash(" + kept + ")", book.find(300, 47), 52);
            CHECK.due("root() behind crash(" + kept + ")", book.root(), kept < 129 ? 2 : 1);
            CHECK.due("badAt() behind crash(" + kept + ")", book.badAt(), -1);
        }
    }

    private static void dropOpensWithOrWithout() {
        CHECK.sentence("of the bytes that drop() wrote, the first so many stay: 0 to 65");
        for (int kept = 0; kept <= 65; kept++) {
            PuzzleBook book = Books.three();
            book.drop(1);
            CHECK.due("crash(" + kept + ")", book.crash(kept), true);
            CHECK.due("reopen() behind crash(" + kept + ")", book.reopen(), kept < 65 ? 3 : 2);
            CHECK.due("find(44, 0) behind crash(" + kept + ")", book.find(44, 0), kept < 65 ? 4 : -1);
            CHECK.due("root() behind crash(" + kept + ")", book.root(), kept < 65 ? 2 : 1);
        }
    }

    private static void latestChange() {
        CHECK.sentence("the latest put() or drop()");
        PuzzleBook book = Books.three();
        Books.enter(book, 7, 70);
        book.drop(0);
        CHECK.due("crash(66) of a drop behind a put", book.crash(66), false);
        CHECK.due("crash(0)", book.crash(0), true);
        CHECK.due("reopen()", book.reopen(), 4);
        book.drop(0);
        Books.enter(book, 8, 80);
        CHECK.due("crash(128) of a put behind a drop", book.crash(128), true);
        CHECK.due("reopen()", book.reopen(), 3);
        Books.enter(book, 8, 80);
        Books.enter(book, 9, 90);
        CHECK.due("crash(0) of a put behind a put", book.crash(0), true);
        CHECK.due("reopen()", book.reopen(), 4);
    }

    private static void latestThatWrote() {
        CHECK.sentence("the latest that wrote something");
        PuzzleBook book = Books.full();
        CHECK.due("a put of a row that is there", Books.enter(book, 9, 12), 1);
        CHECK.due("a put without a free block", Books.enter(book, 9, 13), -1);
        CHECK.due("a drop of none", book.drop(2), false);
        book.poke(4, 59, 1);
        CHECK.due("crash(128)", book.crash(128), true);
        CHECK.due("reopen()", book.reopen(), 1);
        CHECK.due("byteAt(4, 3), kept", book.byteAt(4, 3), 12);
    }

    private static void asBefore() {
        CHECK.sentence("all others are as they were before it");
        PuzzleBook book = new PuzzleBook(4);
        for (int i = 0; i < 64; i++) {
            book.poke(2, i, 64 + i);
            book.poke(3, i, 128 + i);
        }
        Books.enter(book, 0xABCD, 1, 2, 3);
        CHECK.due("crash(0)", book.crash(0), true);
        Books.dueBlock(CHECK, "the free block", book, 3, Books.row(128, 64));
        Books.dueBlock(CHECK, "the other root block", book, 2, Books.row(64, 64));
        CHECK.due("THE TURN", book.byteAt(0, 0), 1);
    }

    private static void onlyWrittenBytes() {
        CHECK.sentence("of the bytes that it wrote: all others are as they were, pokes on them too");
        PuzzleBook book = new PuzzleBook(6);
        Books.enter(book, 1, 1);
        book.poke(3, 0, 128);
        book.poke(3, 63, 128);
        book.poke(5, 5, 5);
        book.poke(1, 9, 9);
        book.poke(0, 1, 7);
        book.poke(0, 0, 64);
        CHECK.due("crash(1)", book.crash(1), true);
        CHECK.due("a kept byte", book.byteAt(3, 0), 129);
        CHECK.due("a byte that is not kept", book.byteAt(3, 63), 0);
        CHECK.due("a byte that was not written", book.byteAt(5, 5), 5);
        CHECK.due("a byte of the root before", book.byteAt(1, 9), 9);
        CHECK.due("a byte beside THE TURN", book.byteAt(0, 1), 7);
        CHECK.due("THE TURN", book.byteAt(0, 0), 1);
    }

    private static void notOpenThen() {
        CHECK.sentence("the book is not open then");
        for (int kept : new int[] {0, 64, 128, 129}) {
            PuzzleBook book = Books.three();
            CHECK.due("crash(" + kept + ")", book.crash(kept), true);
            CHECK.due("root()", book.root(), -1);
            CHECK.due("free()", book.free(), -1);
            CHECK.due("entry(0, 1)", book.entry(0, 1), -1);
            CHECK.due("find(300, 0)", book.find(300, 0), -1);
            CHECK.due("put(1)", Books.enter(book, 1, 99), -1);
            CHECK.due("drop(0)", book.drop(0), false);
            CHECK.due("badAt()", book.badAt(), -1);
        }
    }

    private static void fedStays() {
        CHECK.sentence("The book is cut off, and the row that is fed, which is none of its bytes, stays");
        PuzzleBook book = Books.three();
        Books.feed(book, 7, 8);
        book.crash(0);
        book.reopen();
        CHECK.due("put(5)", book.put(5), 2);
        CHECK.due("find(5, 1)", book.find(5, 1), 8);
    }

    private static void notOpen() {
        CHECK.sentence("False, doing nothing, when it is not open");
        for (int kept : new int[] {0, 1, 65, 128, 129, 130, -1}) {
            Twins.dueNothing(CHECK, "crash(" + kept + ") of a cut off book", Books::cutOff, crash(kept), 0);
            Twins.dueNothing(CHECK, "crash(" + kept + ") of a refused book", Books::refused, crash(kept), 0);
        }
    }

    private static void nothingWrittenSinceOpened() {
        CHECK.sentence("False, doing nothing, when nothing was written since it was opened");
        for (int kept : new int[] {0, 1, 65, 129}) {
            dueFalse("a new book", () -> new PuzzleBook(5), kept);
            dueFalse("opened when it was open", () -> opened(Books.three()), kept);
            dueFalse("opened when it was cut off", () -> opened(Books.cutOff()), kept);
            dueFalse("a put that wrote nothing", CrashTest::openedAndPut, kept);
            dueFalse("a put and a drop that were refused", CrashTest::openedAndRefused, kept);
            dueFalse("a poke alone", CrashTest::openedAndPoked, kept);
        }
        PuzzleBook book = opened(Books.three());
        book.drop(0);
        CHECK.due("crash(0) of a drop since", book.crash(0), true);
    }

    private static void dueFalse(String what, Supplier<PuzzleBook> maker, int kept) {
        Twins.dueNothing(CHECK, "crash(" + kept + "), " + what, maker, crash(kept), 0);
    }

    private static PuzzleBook opened(PuzzleBook book) {
        book.reopen();
        return book;
    }

    private static PuzzleBook openedAndPut() {
        PuzzleBook book = opened(Books.full());
        Books.enter(book, 9, 12);
        return book;
    }

    private static PuzzleBook openedAndRefused() {
        PuzzleBook book = opened(Books.full());
        Books.enter(book, 9, 13);
        book.drop(2);
        return book;
    }

    private static PuzzleBook openedAndPoked() {
        PuzzleBook book = opened(Books.full());
        book.poke(4, 9, 9);
        book.poke(2, 9, 9);
        return book;
    }

    private static void notSoManyBytes() {
        CHECK.sentence("False, doing nothing, when there were not so many bytes");
        for (int kept : Books.andFar(-1, 130, 131, 256)) {
            Twins.dueNothing(CHECK, "crash(" + kept + ") of a put", Books::three, crash(kept), 0);
        }
        for (int kept : Books.andFar(-1, 66, 128, 129, 130)) {
            Twins.dueNothing(CHECK, "crash(" + kept + ") of a drop", CrashTest::dropped, crash(kept), 0);
        }
        CHECK.due("crash(129) of a put", Books.three().crash(129), true);
        CHECK.due("crash(65) of a drop", dropped().crash(65), true);
    }

    private static PuzzleBook dropped() {
        PuzzleBook book = Books.full();
        book.drop(0);
        return book;
    }

    private static java.util.function.ToLongFunction<PuzzleBook> crash(int kept) {
        return book -> book.crash(kept) ? 1 : 0;
    }
}
