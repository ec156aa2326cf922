/** What the tests do with a book again and again, by its face alone. */
final class Books {
    private Books() {}

    static void feed(PuzzleBook book, int... row) {
        for (int b : row) {
            book.feed(b);
        }
    }

    static int enter(PuzzleBook book, int name, int... row) {
        feed(book, row);
        return book.put(name);
    }

    /** A row of so many bytes: first, first + 1 and so on. */
    static int[] row(int first, int count) {
        int[] row = new int[count];
        for (int i = 0; i < count; i++) {
            row[i] = (first + i) & 255;
        }
        return row;
    }

    static int[] block(PuzzleBook book, int block) {
        int[] bytes = new int[64];
        for (int i = 0; i < 64; i++) {
            bytes[i] = book.byteAt(block, i);
        }
        return bytes;
    }

    static void set(PuzzleBook book, int block, int i, int value) {
        book.poke(block, i, book.byteAt(block, i) ^ value);
    }

    /** The document's sum in 64 bit arithmetic, so that it is not a copy of the class's own. */
    static int[] sum(int[] bytes) {
        long s = 1;
        for (int i = 0; i < 60; i++) {
            s = (s ^ bytes[i]) & 0xFFFFFFFFL;
            s = (s << 17 | s >> 15) & 0xFFFFFFFFL;
            s = s * 0x85EBCA6BL & 0xFFFFFFFFL;
        }
        int[] sum = new int[4];
        for (int i = 0; i < 4; i++) {
            sum[i] = (int) (s >> 8 * i & 255);
        }
        return sum;
    }

    /** Pokes the sum of an altered block right again. */
    static void reseal(PuzzleBook book, int block) {
        int[] sum = sum(block(book, block));
        for (int i = 0; i < 4; i++) {
            set(book, block, 60 + i, sum[i]);
        }
    }

    /** The 64 bytes of a root or an entry's block that begins so. */
    static int[] sealed(int... start) {
        int[] bytes = java.util.Arrays.copyOf(start, 64);
        System.arraycopy(sum(bytes), 0, bytes, 60, 4);
        return bytes;
    }

    static int[] entryBlock(int name, int... row) {
        int[] start = new int[3 + row.length];
        start[0] = name % 256;
        start[1] = name / 256;
        start[2] = row.length;
        System.arraycopy(row, 0, start, 3, row.length);
        return sealed(start);
    }

    static void dueBlock(Check check, String what, PuzzleBook book, int block, int[] want) {
        for (int i = 0; i < 64; i++) {
            check.due(what + ": byteAt(" + block + ", " + i + ")", book.byteAt(block, i), want[i]);
        }
    }
}
