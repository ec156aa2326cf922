import java.util.function.Supplier;
import java.util.function.ToLongFunction;

/** Promise 9: poke. */
public final class PokeTest {
    private static final Check CHECK = new Check("PokeTest");

    public static void main(String[] args) {
        xored();
        alsoNotOpen();
        noSuchBlock();
        noSuchByte();
        maskIsNotSo();
        goesOnWithTheTurn();
        goesOnWithTheBlocks();
        namesOfTheStore();
        lengthsOfTheStore();
        firstFortyEight();
        rowsOfTheStore();
        sumsOfTheStore();
        CHECK.end();
    }

    private static void xored() {
        CHECK.sentence("A byte of THE STORE is xored by a mask: true");
        PuzzleBook book = new PuzzleBook(5);
        for (int[] place : new int[][] {{0, 0}, {0, 63}, {1, 60}, {2, 0}, {4, 0}, {4, 63}}) {
            int was = book.byteAt(place[0], place[1]);
            for (int mask : new int[] {1, 2, 127, 128, 254, 255}) {
                CHECK.due("poke by " + mask, book.poke(place[0], place[1], mask), true);
                CHECK.due("byteAt behind " + mask, book.byteAt(place[0], place[1]), was ^ mask);
                CHECK.due("poke by " + mask + " again", book.poke(place[0], place[1], mask), true);
                CHECK.due("byteAt behind both", book.byteAt(place[0], place[1]), was);
            }
        }
        book.poke(3, 7, 0xF0);
        book.poke(3, 7, 0x3C);
        CHECK.due("byteAt(3, 7) behind two masks", book.byteAt(3, 7), 0xCC);
        CHECK.due("byteAt(3, 6)", book.byteAt(3, 6), 0);
        CHECK.due("byteAt(3, 8)", book.byteAt(3, 8), 0);
    }

    private static void alsoNotOpen() {
        CHECK.sentence("A byte of THE STORE is xored, of a book that is not open too");
        for (Supplier<PuzzleBook> maker : java.util.List.<Supplier<PuzzleBook>>of(Books::cutOff, Books::refused)) {
            PuzzleBook book = maker.get();
            CHECK.due("poke(4, 63, 255)", book.poke(4, 63, 255), true);
            CHECK.due("byteAt(4, 63)", book.byteAt(4, 63), maker.get().byteAt(4, 63) ^ 255);
            CHECK.due("poke(5, 0, 1)", book.poke(5, 0, 1), false);
            CHECK.due("root()", book.root(), -1);
        }
    }

    private static void noSuchBlock() {
        CHECK.sentence("false, doing nothing, when there is no such block");
        for (int block : Books.andFar(-1, 5, 6, 63, 64)) {
            Twins.dueNothing(CHECK, "poke(" + block + ", 0, 1)", Books::full, poke(block, 0, 1), 0);
            Twins.dueNothing(CHECK, "poke(" + block + ", 63, 255)", Books::full, poke(block, 63, 255), 0);
        }
        CHECK.due("poke(64, 0, 1) of 64 blocks", new PuzzleBook(64).poke(64, 0, 1), false);
        CHECK.due("poke(63, 0, 1) of 64 blocks", new PuzzleBook(64).poke(63, 0, 1), true);
    }

    private static void noSuchByte() {
        CHECK.sentence("false, doing nothing, when there is no such byte");
        for (int i : Books.andFar(-1, -64, 64, 65, 128)) {
            Twins.dueNothing(CHECK, "poke(0, " + i + ", 1)", Books::full, poke(0, i, 1), 0);
            Twins.dueNothing(CHECK, "poke(1, " + i + ", 1)", Books::full, poke(1, i, 1), 0);
            Twins.dueNothing(CHECK, "poke(4, " + i + ", 1)", Books::full, poke(4, i, 1), 0);
        }
    }

    private static void maskIsNotSo() {
        CHECK.sentence("false, doing nothing, when the mask is not 1 to 255");
        for (int mask : Books.andFar(0, -1, -255, 256, 257, 511)) {
            Twins.dueNothing(CHECK, "poke(0, 0, " + mask + ")", Books::full, poke(0, 0, mask), 0);
            Twins.dueNothing(CHECK, "poke(4, 3, " + mask + ")", Books::full, poke(4, 3, mask), 0);
        }
    }

    private static ToLongFunction<PuzzleBook> poke(int block, int i, int mask) {
        return book -> book.poke(block, i, mask) ? 1 : 0;
    }

    private static void goesOnWithTheTurn() {
        CHECK.sentence("An open book goes on with THE TURN that it has read or written");
        for (int turn : new int[] {0, 1, 3, 130, 255}) {
            PuzzleBook book = Books.three();
            Books.set(book, 0, 0, turn);
            CHECK.due("root()", book.root(), 2);
            CHECK.due("entry(2, 1)", book.entry(2, 1), 5);
            CHECK.due("badAt()", book.badAt(), -1);
            CHECK.due("put", Books.enter(book, 7, 70), 3);
            CHECK.due("root() behind put", book.root(), 1);
            CHECK.due("THE TURN is written anew", book.byteAt(0, 0), 1);
            CHECK.due("the root before stands", book.byteAt(2, 0), 3);
            CHECK.due("reopen()", book.reopen(), 4);
        }
    }

    private static void goesOnWithTheBlocks() {
        CHECK.sentence("An open book goes on with the blocks that it has read or written");
        for (int told : new int[] {0, 1, 4, 41, 255}) {
            PuzzleBook book = Books.three();
            Books.set(book, 2, 0, told);
            Books.set(book, 2, 1, 255);
            Books.set(book, 2, 2, 0);
            Books.reseal(book, 2);
            CHECK.due("free()", book.free(), 2);
            CHECK.due("entry(0, 1)", book.entry(0, 1), 3);
            CHECK.due("entry(2, 1)", book.entry(2, 1), 5);
            CHECK.due("entry(3, 1)", book.entry(3, 1), -1);
            CHECK.due("find(44, 0)", book.find(44, 0), 4);
            CHECK.due("drop(1)", book.drop(1), true);
            Books.dueBlock(CHECK, "the root written then", book, 1, Books.sealed(2, 3, 5));
            CHECK.due("put takes the least block free by them", Books.enter(book, 7, 70), 2);
            CHECK.due("entry(2, 1)", book.entry(2, 1), 4);
        }
    }

    private static void namesOfTheStore() {
        CHECK.sentence("names are those of THE STORE then");
        PuzzleBook book = Books.three();
        Books.set(book, 4, 0, 7);
        CHECK.due("entry(1, 0)", book.entry(1, 0), 7);
        CHECK.due("find(7, 0)", book.find(7, 0), 4);
        CHECK.due("find(44, 0)", book.find(44, 0), -1);
        Books.set(book, 4, 1, 255);
        CHECK.due("entry(1, 0), upper byte", book.entry(1, 0), 0xFF07);
        CHECK.due("find(0xFF07, 0)", book.find(0xFF07, 0), 4);
        Books.set(book, 5, 1, 0);
        CHECK.due("find(300, 2), the last has another name", book.find(300, 2), 3);
    }

    private static void lengthsOfTheStore() {
        CHECK.sentence("how many bytes are those of THE STORE then");
        for (int told : new int[] {0, 1, 2, 47, 48, 49, 127, 128, 255}) {
            PuzzleBook book = Books.three();
            Books.set(book, 3, 2, told);
            CHECK.due("entry(0, 2)", book.entry(0, 2), told);
        }
        PuzzleBook book = Books.three();
        Books.set(book, 4, 2, 3);
        CHECK.due("find(44, 2) of three told", book.find(44, 2), 0);
        CHECK.due("find(44, 3) of three told", book.find(44, 3), -1);
        Books.set(book, 4, 2, 0);
        CHECK.due("find(44, 0) of none told", book.find(44, 0), -1);
    }

    private static void firstFortyEight() {
        CHECK.sentence("of more than 48 bytes the first 48");
        for (int told : new int[] {49, 57, 61, 128, 255}) {
            PuzzleBook book = Books.three();
            Books.set(book, 5, 2, told);
            CHECK.due("find(300, 47), told " + told, book.find(300, 47), 52);
            for (int i : new int[] {48, 49, 56, 57, 60, 61, 127, 254}) {
                CHECK.due("find(300, " + i + "), told " + told, book.find(300, i), -1);
            }
        }
    }

    private static void rowsOfTheStore() {
        CHECK.sentence("rows are those of THE STORE then");
        PuzzleBook book = Books.three();
        Books.set(book, 4, 3, 200);
        CHECK.due("find(44, 0)", book.find(44, 0), 200);
        CHECK.due("put of the altered row", Books.enter(book, 9, 200), 1);
        CHECK.due("put of the row as it was", Books.enter(book, 9, 4), 3);
        Books.set(book, 5, 50, 201);
        CHECK.due("find(300, 47)", book.find(300, 47), 201);
    }

    private static void sumsOfTheStore() {
        CHECK.sentence("sums are those of THE STORE then");
        PuzzleBook book = Books.three();
        book.poke(4, 60, 1);
        CHECK.due("badAt() of an altered sum", book.badAt(), 4);
        book.poke(4, 60, 1);
        CHECK.due("badAt() of it mended", book.badAt(), -1);
        Books.set(book, 4, 3, 200);
        CHECK.due("badAt() of an altered row", book.badAt(), 4);
        Books.reseal(book, 4);
        CHECK.due("badAt() of an altered row with its sum", book.badAt(), -1);
    }
}
