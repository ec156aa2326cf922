/** Promises 9 and 10: poke and badAt. */
public final class PokeTest {
    private static final Check CHECK = new Check("PokeTest");

    public static void main(String[] args) {
        pokeRange();
        pokeXors();
        openGoesOn();
        badAt();
        CHECK.end();
    }

    private static void pokeRange() {
        PuzzleBook book = new PuzzleBook(5);
        int[][] wrong = {
            {-1, 0, 1}, {5, 0, 1}, {0, -1, 1}, {0, 64, 1}, {0, 0, 0}, {0, 0, -1}, {0, 0, 256},
            {0, 0, Integer.MIN_VALUE}, {0, 0, Integer.MAX_VALUE}, {Integer.MIN_VALUE, 0, 1},
            {Integer.MAX_VALUE, 0, 1}, {0, Integer.MIN_VALUE, 1}, {0, Integer.MAX_VALUE, 1},
            {1 << 26, 0, 1}, {1, -64, 1}, {64, 0, 1}
        };
        for (int[] p : wrong) {
            CHECK.due("poke(" + p[0] + ", " + p[1] + ", " + p[2] + ")", book.poke(p[0], p[1], p[2]), false);
        }
        CHECK.due("byteAt(0, 0)", book.byteAt(0, 0), 1);
        CHECK.due("poke(4, 63, 255)", book.poke(4, 63, 255), true);
        CHECK.due("poke(0, 0, 1)", book.poke(0, 0, 1), true);
        CHECK.due("byteAt(4, 63)", book.byteAt(4, 63), 255);
        CHECK.due("byteAt(0, 0)", book.byteAt(0, 0), 0);
        CHECK.due("reopen()", book.reopen(), -1);
        CHECK.due("poke not open", book.poke(0, 0, 1), true);
        CHECK.due("byteAt(0, 0)", book.byteAt(0, 0), 1);
    }

    private static void pokeXors() {
        PuzzleBook book = new PuzzleBook(4);
        book.poke(3, 7, 0xF0);
        book.poke(3, 7, 0x3C);
        CHECK.due("byteAt(3, 7)", book.byteAt(3, 7), 0xCC);
        CHECK.due("byteAt(3, 6)", book.byteAt(3, 6), 0);
        CHECK.due("byteAt(3, 8)", book.byteAt(3, 8), 0);
        book.poke(3, 7, 0xCC);
        CHECK.due("byteAt(3, 7)", book.byteAt(3, 7), 0);
    }

    /** An open book goes on with the turn and the entries' blocks that it has. */
    private static void openGoesOn() {
        PuzzleBook book = new PuzzleBook(8);
        Books.enter(book, 1, 1);
        Books.enter(book, 2, 2);
        book.poke(0, 0, 3);
        book.poke(1, 0, 2);
        book.poke(1, 1, 255);
        CHECK.due("root()", book.root(), 1);
        CHECK.due("free()", book.free(), 3);
        CHECK.due("entry(0, 1)", book.entry(0, 1), 3);
        CHECK.due("entry(1, 0)", book.entry(1, 0), 2);
        CHECK.due("put", Books.enter(book, 3, 3), 2);
        CHECK.due("root()", book.root(), 2);
        CHECK.due("THE TURN is written, not xored", book.byteAt(0, 0), 2);
        Books.dueBlock(CHECK, "the new root", book, 2, Books.sealed(3, 3, 4, 5));
        CHECK.due("reopen()", book.reopen(), 3);
    }

    private static void badAt() {
        PuzzleBook book = new PuzzleBook(8);
        for (int k = 0; k < 3; k++) {
            Books.enter(book, k, k);
        }
        book.drop(0);
        Books.enter(book, 9, 9);
        CHECK.due("badAt()", book.badAt(), -1);
        CHECK.due("root()", book.root(), 2);
        book.poke(1, 0, 1);
        book.poke(7, 0, 1);
        book.poke(0, 5, 1);
        CHECK.due("the other root, a free block and block 0 do not count", book.badAt(), -1);
        book.poke(5, 60, 1);
        CHECK.due("badAt() of one", book.badAt(), 5);
        book.poke(3, 63, 128);
        CHECK.due("badAt() of two", book.badAt(), 3);
        book.poke(4, 59, 4);
        CHECK.due("badAt() of three", book.badAt(), 3);
        book.poke(2, 62, 16);
        CHECK.due("badAt() of the root too", book.badAt(), 2);
        book.poke(0, 0, 3);
        CHECK.due("THE ROOT is the open book's", book.badAt(), 2);
        book.poke(2, 62, 16);
        book.poke(3, 63, 128);
        CHECK.due("badAt() of those that are left", book.badAt(), 4);
        Books.reseal(book, 4);
        Books.reseal(book, 5);
        CHECK.due("badAt() of none", book.badAt(), -1);
        Books.set(book, 4, 2, 0);
        Books.reseal(book, 4);
        CHECK.due("badAt() looks at sums alone", book.badAt(), -1);
        Books.set(book, 2, 0, 99);
        Books.reseal(book, 2);
        CHECK.due("badAt() looks at the root's sum alone", book.badAt(), -1);
        book.poke(0, 0, 3);
        CHECK.due("reopen()", book.reopen(), -3);
        book.poke(2, 0, 1);
        CHECK.due("badAt() not open", book.badAt(), -1);
    }
}
