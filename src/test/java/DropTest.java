/** Promise 6: drop. */
public final class DropTest {
    private static final Check CHECK = new Check("DropTest");

    public static void main(String[] args) {
        isDropped();
        oneNumberLess();
        theOnlyOne();
        oneOfForty();
        noneSuch();
        notOpen();
        fedStays();
        CHECK.end();
    }

    private static PuzzleBook four() {
        PuzzleBook book = new PuzzleBook(7);
        for (int k = 0; k < 4; k++) {
            Books.enter(book, 10 + k, 20 + k);
        }
        return book;
    }

    private static void isDropped() {
        CHECK.sentence("An entry is dropped: true");
        PuzzleBook book = four();
        CHECK.due("drop(1)", book.drop(1), true);
        CHECK.due("find(11, 0)", book.find(11, 0), -1);
        CHECK.due("free()", book.free(), 1);
        Books.dueBlock(CHECK, "the root", book, 2, Books.sealed(3, 3, 5, 6));
        Books.dueBlock(CHECK, "its block stands", book, 4, Books.entryBlock(11, 21));
        CHECK.due("badAt()", book.badAt(), -1);
        CHECK.due("reopen()", book.reopen(), 3);
    }

    private static void oneNumberLess() {
        CHECK.sentence("those behind it have one number less");
        for (int dropped = 0; dropped < 4; dropped++) {
            PuzzleBook book = four();
            CHECK.due("drop(" + dropped + ")", book.drop(dropped), true);
            for (int k = 0; k < 3; k++) {
                int due = k < dropped ? k : k + 1;
                CHECK.due("drop(" + dropped + "): entry(" + k + ", 0)", book.entry(k, 0), 10 + due);
                CHECK.due("drop(" + dropped + "): entry(" + k + ", 1)", book.entry(k, 1), 3 + due);
            }
            CHECK.due("drop(" + dropped + "): entry(3, 0)", book.entry(3, 0), -1);
        }
    }

    private static void theOnlyOne() {
        CHECK.sentence("An entry is dropped, the only one");
        PuzzleBook book = new PuzzleBook(4);
        Books.enter(book, 1, 1);
        CHECK.due("drop(0)", book.drop(0), true);
        CHECK.due("entry(0, 1)", book.entry(0, 1), -1);
        CHECK.due("reopen()", book.reopen(), 0);
        CHECK.due("drop(0) again", book.drop(0), false);
    }

    private static void oneOfForty() {
        CHECK.sentence("An entry is dropped, one of 40");
        PuzzleBook last = Books.forty();
        CHECK.due("drop(40)", last.drop(40), false);
        CHECK.due("drop(39)", last.drop(39), true);
        CHECK.due("entry(38, 0)", last.entry(38, 0), 38);
        CHECK.due("entry(39, 0)", last.entry(39, 0), -1);
        PuzzleBook first = Books.forty();
        CHECK.due("drop(0)", first.drop(0), true);
        CHECK.due("entry(38, 0)", first.entry(38, 0), 39);
        CHECK.due("reopen()", first.reopen(), 39);
    }

    private static void noneSuch() {
        CHECK.sentence("false when there is none such");
        for (int k : Books.andFar(-1, 3, 4, 39, 40, 41, 44, 300)) {
            Twins.dueNothing(CHECK, "drop(" + k + ")", Books::three, book -> dropped(book, k), 0);
        }
        Twins.dueNothing(CHECK, "drop(0) of a new book", () -> new PuzzleBook(4), book -> dropped(book, 0), 0);
    }

    private static void notOpen() {
        CHECK.sentence("false when the book is not open");
        Twins.dueNothing(CHECK, "drop(0) of a cut off book", Books::cutOff, book -> dropped(book, 0), 0);
        Twins.dueNothing(CHECK, "drop(0) of a refused book", Books::refused, book -> dropped(book, 0), 0);
    }

    private static void fedStays() {
        CHECK.sentence("An entry is dropped, and nothing is fed by it or lost");
        PuzzleBook book = four();
        Books.feed(book, 7, 8);
        book.drop(0);
        CHECK.due("put(5)", book.put(5), 3);
        CHECK.due("entry(3, 2)", book.entry(3, 2), 2);
        CHECK.due("find(5, 1)", book.find(5, 1), 8);
    }

    private static long dropped(PuzzleBook book, int k) {
        return book.drop(k) ? 1 : 0;
    }
}
