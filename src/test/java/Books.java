import java.util.Arrays;

/** What the tests do with a book again and again, by its face alone. */
final class Books {
    /** Far outside what any call takes; times 64, or cut to its lower bytes, some would wrap to 0. */
    static final int[] FAR = {Integer.MIN_VALUE, -(1 << 26), -65536, -256, 1 << 26, Integer.MAX_VALUE};

    static final int THROWN = -2;
    static final int MACHINE_THREW = -3;

    private Books() {}

    static void feed(PuzzleBook book, int... row) {
        for (int b : row) {
            book.feed(b);
        }
    }

    static int enter(PuzzleBook book, int name, int... row) {
        feed(book, row);
        return book.put(name);
    }

    /** A row of so many bytes: first, first + 1 and so on. */
    static int[] row(int first, int count) {
        int[] row = new int[count];
        for (int i = 0; i < count; i++) {
            row[i] = (first + i) & 255;
        }
        return row;
    }

    /** The values with those that are far from any that a call takes. */
    static int[] andFar(int... values) {
        int[] all = Arrays.copyOf(values, values.length + FAR.length);
        System.arraycopy(FAR, 0, all, values.length, FAR.length);
        return all;
    }

    /** Eight blocks, entries 0 to 2: names 300, 44, 300, rows of 3, 1 and 48 bytes, blocks 3 to 5; THE TURN 2. */
    static PuzzleBook three() {
        PuzzleBook book = new PuzzleBook(8);
        enter(book, 300, 1, 2, 3);
        enter(book, 44, 4);
        enter(book, 300, row(5, 48));
        return book;
    }

    /** Six blocks, entries in the blocks 4, 5 and 3, in this order; THE TURN 2. */
    static PuzzleBook outOfOrder() {
        PuzzleBook book = new PuzzleBook(6);
        enter(book, 1, 11);
        enter(book, 2, 12);
        enter(book, 3, 13);
        book.drop(0);
        enter(book, 4, 14);
        return book;
    }

    /** Five blocks, no free one: names 1 and 2, rows 11 and 12; THE TURN 1. */
    static PuzzleBook full() {
        PuzzleBook book = new PuzzleBook(5);
        enter(book, 1, 11);
        enter(book, 2, 12);
        return book;
    }

    /** 64 blocks, the names 0 to 39, the rows 100 to 139 of one byte; THE TURN 1. */
    static PuzzleBook forty() {
        PuzzleBook book = new PuzzleBook(64);
        for (int k = 0; k < 40; k++) {
            enter(book, k, 100 + k);
        }
        return book;
    }

    /** Five blocks, not open since it was cut off; one entry, by the name 1; 7 and 8 are fed. */
    static PuzzleBook cutOff() {
        PuzzleBook book = full();
        feed(book, 7, 8);
        book.crash(128);
        return book;
    }

    /** Five blocks, not open since reopen refused THE TURN 0; two entries; 7 and 8 are fed. */
    static PuzzleBook refused() {
        PuzzleBook book = full();
        feed(book, 7, 8);
        set(book, 0, 0, 0);
        book.reopen();
        return book;
    }

    static int byteOrThrown(PuzzleBook book, int block, int i) {
        try {
            return book.byteAt(block, i);
        } catch (ArrayIndexOutOfBoundsException e) {
            // The machine's own exception has a text of this form; the class must throw by itself.
            boolean byMachine = e.getMessage() != null && e.getMessage().startsWith("Index ");
            return byMachine || e.getClass() != ArrayIndexOutOfBoundsException.class ? MACHINE_THREW : THROWN;
        }
    }

    static int[] block(PuzzleBook book, int block) {
        int[] bytes = new int[64];
        for (int i = 0; i < 64; i++) {
            bytes[i] = book.byteAt(block, i);
        }
        return bytes;
    }

    /** Makes a byte of the store what it should be: a mask of 0 is refused, which is right then. */
    static void set(PuzzleBook book, int block, int i, int value) {
        book.poke(block, i, book.byteAt(block, i) ^ value);
    }

    /** The document's sum in 64 bit arithmetic, so that it is not a copy of the class's own. */
    static int[] sum(int[] bytes) {
        long s = 1;
        for (int i = 0; i < 60; i++) {
            s = (s ^ bytes[i]) & 0xFFFFFFFFL;
            s = (s << 17 | s >> 15) & 0xFFFFFFFFL;
            s = s * 0x85EBCA6BL & 0xFFFFFFFFL;
        }
        int[] sum = new int[4];
        for (int i = 0; i < 4; i++) {
            sum[i] = (int) (s >> 8 * i & 255);
        }
        return sum;
    }

    /** Pokes the sum of an altered block right again. */
    static void reseal(PuzzleBook book, int block) {
        int[] sum = sum(block(book, block));
        for (int i = 0; i < 4; i++) {
            set(book, block, 60 + i, sum[i]);
        }
    }

    /** The 64 bytes of a root or an entry's block that begins so. */
    static int[] sealed(int... start) {
        int[] bytes = Arrays.copyOf(start, 64);
        System.arraycopy(sum(bytes), 0, bytes, 60, 4);
        return bytes;
    }

    static int[] entryBlock(int name, int... row) {
        int[] start = new int[3 + row.length];
        start[0] = name % 256;
        start[1] = name / 256;
        start[2] = row.length;
        System.arraycopy(row, 0, start, 3, row.length);
        return sealed(start);
    }

    static void dueBlock(Check check, String what, PuzzleBook book, int block, int[] want) {
        for (int i = 0; i < 64; i++) {
            check.due(what + ": byteAt(" + block + ", " + i + ")", book.byteAt(block, i), want[i]);
        }
    }
}
