/** Promise 4: find. */
public final class FindTest {
    private static final Check CHECK = new Check("FindTest");

    public static void main(String[] args) {
        byteOfARow();
        lastEntry();
        entriesAlone();
        noSuchName();
        noSuchByte();
        notOpen();
        changesNothing();
        CHECK.end();
    }

    private static void byteOfARow() {
        CHECK.sentence("Byte i of the row");
        PuzzleBook book = new PuzzleBook(5);
        int[] row = Books.row(230, 48);
        Books.enter(book, 0, row);
        Books.enter(book, 65535, 255);
        for (int i = 0; i < 48; i++) {
            CHECK.due("find(0, " + i + ")", book.find(0, i), row[i]);
        }
        CHECK.due("find(65535, 0)", book.find(65535, 0), 255);
    }

    private static void lastEntry() {
        CHECK.sentence("of the last entry that has a name");
        PuzzleBook book = new PuzzleBook(8);
        Books.enter(book, 300, 1, 2, 3);
        Books.enter(book, 44, 4);
        Books.enter(book, 300, 5, 6);
        Books.enter(book, 256, 7);
        CHECK.due("find(300, 1)", book.find(300, 1), 6);
        CHECK.due("find(300, 2), which the first one has", book.find(300, 2), -1);
        CHECK.due("find(44, 0), alike in the lower byte", book.find(44, 0), 4);
        CHECK.due("find(256, 0), alike in the upper byte", book.find(256, 0), 7);
        book.drop(2);
        CHECK.due("find(300, 2) behind drop", book.find(300, 2), 3);
        PuzzleBook moved = Books.outOfOrder();
        Books.set(moved, 5, 0, 4);
        CHECK.due("the last by number, not by block", moved.find(4, 0), 14);
        CHECK.due("find of the last of 40", Books.forty().find(39, 0), 139);
    }

    private static void entriesAlone() {
        CHECK.sentence("of an entry: no other block counts, whatever name it seems to have");
        for (int turn = 1; turn <= 2; turn++) {
            PuzzleBook book = new PuzzleBook(6);
            Books.enter(book, 1, 10);
            Books.enter(book, 2, 20);
            Books.enter(book, 3, 30);
            book.drop(2);
            if (turn == 2) {
                Books.enter(book, 4, 40);
            }
            CHECK.due("root()", book.root(), turn);
            CHECK.due("find(1, 0), THE TURN being " + turn, book.find(1, 0), 10);
            CHECK.due("find(2, 0), THE TURN being " + turn, book.find(2, 0), 20);
            Books.set(book, 0, 1, 9);
            Books.set(book, 0, 2, 1);
            CHECK.due("find of block 0, altered", book.find(9 * 256 + turn, 0), -1);
            CHECK.due("find of a free block", book.find(3, 0), -1);
        }
    }

    private static void noSuchName() {
        CHECK.sentence("-1 when there is none: no entry has the name");
        PuzzleBook book = Books.three();
        for (int name : Books.andFar(-1, 0, 1, 43, 45, 256, 299, 301, 65535, 65536, 65580, 65836)) {
            CHECK.due("find(" + name + ", 0)", book.find(name, 0), -1);
        }
        book.drop(1);
        CHECK.due("find(44, 0), a dropped one", book.find(44, 0), -1);
        CHECK.due("find(0, 0) of a new book", new PuzzleBook(8).find(0, 0), -1);
        CHECK.due("find(0, -3) of a new book", new PuzzleBook(8).find(0, -3), -1);
    }

    private static void noSuchByte() {
        CHECK.sentence("-1 when there is none: the row has no byte i");
        PuzzleBook book = Books.three();
        for (int i : Books.andFar(-1, -2, -3, 48, 49, 56, 57, 60, 61, 64)) {
            CHECK.due("find(300, " + i + ")", book.find(300, i), -1);
            CHECK.due("find(44, " + i + ")", book.find(44, i), -1);
        }
        CHECK.due("find(300, 47)", book.find(300, 47), 52);
        CHECK.due("find(44, 0)", book.find(44, 0), 4);
        CHECK.due("find(44, 1)", book.find(44, 1), -1);
    }

    private static void notOpen() {
        CHECK.sentence("-1 when the book is not open");
        CHECK.due("find(1, 0), cut off", Books.cutOff().find(1, 0), -1);
        CHECK.due("find(1, 0), refused", Books.refused().find(1, 0), -1);
        PuzzleBook book = Books.cutOff();
        book.reopen();
        CHECK.due("find(1, 0), opened again", book.find(1, 0), 11);
    }

    private static void changesNothing() {
        CHECK.sentence("find only tells");
        Twins.dueNothing(CHECK, "find(300, 1)", Books::three, book -> book.find(300, 1), 6);
        Twins.dueNothing(CHECK, "find(9, 0)", Books::three, book -> book.find(9, 0), -1);
    }
}
