/**
 * A book of rows of bytes with names, kept in blocks that are never written over while they count.
 *
 * <p>What is entered or dropped goes to free places first; one last byte, the turn, then makes it
 * count. So a book that is cut off at any byte opens with the state before or after that change.
 */
public final class PuzzleBook {
    private static final int LEAST_BLOCKS = 4;
    private static final int MOST_BLOCKS = 64;
    private static final int BLOCK_BYTES = 64;
    private static final int SUMMED_BYTES = 60;
    private static final int MOST_WRITTEN = 2 * BLOCK_BYTES + 1;

    private static final int SUM_START = 1;
    private static final int SUM_TURN = 17;
    private static final int SUM_FACTOR = 0x85EBCA6B;

    private static final int TURN_BLOCK = 0;
    private static final int FIRST_ROOT = 1;
    private static final int SECOND_ROOT = 2;
    private static final int FIRST_ENTRY_BLOCK = 3;

    private static final int MOST_ENTRIES = 40;
    private static final int MOST_ROW_BYTES = 48;
    private static final int MOST_NAME = 65535;
    private static final int MOST_BYTE = 255;

    private static final int LENGTH_AT = 2;
    private static final int ROW_AT = 3;

    private static final int NONE = -1;

    private final Store store;

    private final int[] fedBytes = new int[MOST_ROW_BYTES];
    private int fedCount = 0;

    // What an open book goes by even when the store is altered under it: the turn and the entries'
    // blocks. Names, lengths, rows and sums are always read from the store.
    private boolean isOpen;
    private int turn;
    private final int[] entryBlocks = new int[MOST_ENTRIES];
    private int entryCount = 0;

    public PuzzleBook(int blocks) {
        store = new Store(blocks);
        turn = FIRST_ROOT;
        writeRootBlock(FIRST_ROOT);
        store.write(TURN_BLOCK, 0, FIRST_ROOT);
        // The making of a book is no put or drop, so no crash may undo it.
        store.beginChange();
        isOpen = true;
    }

    public boolean feed(int b) {
        if (b < 0 || b > MOST_BYTE || fedCount < 0 || fedCount >= fedBytes.length) {
            return false;
        }
        fedBytes[fedCount] = b;
        fedCount++;
        return true;
    }

    public int put(int name) {
        if (!isOpen || name < 0 || name > MOST_NAME || fedCount == 0) {
            return NONE;
        }
        // A row that is there already needs no place, so this comes before the tests for one.
        int same = firstEntryWithFedRow();
        if (same != NONE) {
            fedCount = 0;
            return same;
        }
        int block = leastFreeBlock();
        if (block == NONE || entryCount >= MOST_ENTRIES) {
            return NONE;
        }
        store.beginChange();
        writeEntryBlock(block, name);
        addEntryBlock(block);
        writeOtherRootAndTurn();
        fedCount = 0;
        return entryCount - 1;
    }

    public int find(int name, int i) {
        if (!isOpen) {
            return NONE;
        }
        for (int k = entryCount - 1; k >= 0; k--) {
            if (nameOf(k) == name) {
                return rowByte(k, i);
            }
        }
        return NONE;
    }

    public int entry(int k, int what) {
        if (!isEntry(k)) {
            return NONE;
        }
        switch (what) {
            case 0:
                return nameOf(k);
            case 1:
                return blockOf(k);
            case 2:
                return lengthOf(k);
            default:
                return NONE;
        }
    }

    public boolean drop(int entry) {
        if (!isEntry(entry)) {
            return false;
        }
        store.beginChange();
        removeEntryBlock(entry);
        writeOtherRootAndTurn();
        return true;
    }

    public boolean crash(int kept) {
        int written = store.writtenBytes();
        if (!isOpen || written == 0 || kept < 0 || kept > written) {
            return false;
        }
        store.undoAllBut(kept);
        isOpen = false;
        return true;
    }

    public int reopen() {
        store.beginChange();
        int wrong = readFromStore();
        isOpen = wrong == NONE;
        return isOpen ? entryCount : -1 - wrong;
    }

    public boolean poke(int block, int i, int mask) {
        if (!store.has(block, i) || mask < 1 || mask > MOST_BYTE) {
            return false;
        }
        store.alter(block, i, mask);
        return true;
    }

    public int badAt() {
        if (!isOpen) {
            return NONE;
        }
        // A root's block is always less than an entry's.
        if (!store.hasRightSum(turn)) {
            return turn;
        }
        int least = NONE;
        for (int k = 0; k < entryCount; k++) {
            int block = blockOf(k);
            if (!store.hasRightSum(block)) {
                least = lesserBlock(least, block);
            }
        }
        return least;
    }

    public int byteAt(int block, int i) throws ArrayIndexOutOfBoundsException {
        if (!store.has(block, i)) {
            throw new ArrayIndexOutOfBoundsException("there is no such block or byte");
        }
        return store.read(block, i);
    }

    public int free() {
        // The entries' blocks are all different, and none is below the first that can be free.
        return isOpen ? store.blockCount() - FIRST_ENTRY_BLOCK - entryCount : NONE;
    }

    public int root() {
        return isOpen ? turn : NONE;
    }

    private boolean isEntry(int k) {
        return isOpen && k >= 0 && k < entryCount;
    }

    /** The block of entry k, 0 where there is none: just what a root block has behind its entries. */
    private int blockOf(int k) {
        return k >= 0 && k < entryCount && k < entryBlocks.length ? entryBlocks[k] : 0;
    }

    private int nameOf(int k) {
        int block = blockOf(k);
        return store.read(block, 0) | store.read(block, 1) << 8;
    }

    private int lengthOf(int k) {
        return store.read(blockOf(k), LENGTH_AT);
    }

    private int rowByte(int k, int i) {
        // An altered block may tell more bytes than a row can have.
        int length = Math.min(lengthOf(k), MOST_ROW_BYTES);
        return i >= 0 && i < length ? store.read(blockOf(k), ROW_AT + i) : NONE;
    }

    private int fedByte(int i) {
        return i >= 0 && i < fedCount && i < fedBytes.length ? fedBytes[i] : 0;
    }

    private int firstEntryWithFedRow() {
        for (int k = 0; k < entryCount; k++) {
            if (hasFedRow(k)) {
                return k;
            }
        }
        return NONE;
    }

    private boolean hasFedRow(int k) {
        if (lengthOf(k) != fedCount) {
            return false;
        }
        for (int i = 0; i < fedCount; i++) {
            if (rowByte(k, i) != fedByte(i)) {
                return false;
            }
        }
        return true;
    }

    private int leastFreeBlock() {
        for (int block = FIRST_ENTRY_BLOCK; block < store.blockCount(); block++) {
            if (!isTaken(block)) {
                return block;
            }
        }
        return NONE;
    }

    private boolean isTaken(int block) {
        for (int k = 0; k < entryCount; k++) {
            if (blockOf(k) == block) {
                return true;
            }
        }
        return false;
    }

    private void addEntryBlock(int block) {
        if (entryCount >= 0 && entryCount < entryBlocks.length) {
            entryBlocks[entryCount] = block;
            entryCount++;
        }
    }

    private void removeEntryBlock(int k) {
        if (k < 0 || k >= entryCount) {
            return;
        }
        for (int i = k; i + 1 < entryCount && i + 1 < entryBlocks.length; i++) {
            entryBlocks[i] = entryBlocks[i + 1];
        }
        entryCount--;
    }

    private void writeEntryBlock(int block, int name) {
        store.write(block, 0, name);
        store.write(block, 1, name >> 8);
        store.write(block, LENGTH_AT, fedCount);
        for (int i = ROW_AT; i < SUMMED_BYTES; i++) {
            store.write(block, i, fedByte(i - ROW_AT));
        }
        store.writeSum(block);
    }

    private void writeRootBlock(int block) {
        store.write(block, 0, entryCount);
        for (int i = 1; i < SUMMED_BYTES; i++) {
            store.write(block, i, blockOf(i - 1));
        }
        store.writeSum(block);
    }

    /** The turn is written last: until then the root that counts is the one before the change. */
    private void writeOtherRootAndTurn() {
        int other = turn == FIRST_ROOT ? SECOND_ROOT : FIRST_ROOT;
        writeRootBlock(other);
        store.write(TURN_BLOCK, 0, other);
        turn = other;
    }

    /** Answers the least block that is not right, or NONE. */
    private int readFromStore() {
        entryCount = 0;
        turn = store.read(TURN_BLOCK, 0);
        if (turn != FIRST_ROOT && turn != SECOND_ROOT) {
            return TURN_BLOCK;
        }
        if (!readRootBlock(turn)) {
            return turn;
        }
        return leastWrongEntryBlock();
    }

    private boolean readRootBlock(int block) {
        int told = store.read(block, 0);
        if (!store.hasRightSum(block) || told > MOST_ENTRIES) {
            return false;
        }
        for (int k = 0; k < told; k++) {
            int entryBlock = store.read(block, 1 + k);
            if (entryBlock < FIRST_ENTRY_BLOCK
                    || entryBlock >= store.blockCount()
                    || isTaken(entryBlock)) {
                return false;
            }
            addEntryBlock(entryBlock);
        }
        return true;
    }

    private int leastWrongEntryBlock() {
        int least = NONE;
        for (int k = 0; k < entryCount; k++) {
            int block = blockOf(k);
            int length = lengthOf(k);
            if (!store.hasRightSum(block) || length == 0 || length > MOST_ROW_BYTES) {
                least = lesserBlock(least, block);
            }
        }
        return least;
    }

    private static int lesserBlock(int leastSoFar, int block) {
        return leastSoFar == NONE ? block : Math.min(leastSoFar, block);
    }

    /** The blocks, and what the bytes of the latest change were before it. */
    private static final class Store {
        private final int blocks;
        private final byte[] bytes;

        // A change writes no place twice, so these rows never need more than its bytes.
        private final int[] changedPlaces = new int[MOST_WRITTEN];
        private final byte[] formerBytes = new byte[MOST_WRITTEN];
        private int changed = 0;

        Store(int wantedBlocks) {
            blocks = Math.max(LEAST_BLOCKS, Math.min(MOST_BLOCKS, wantedBlocks));
            bytes = new byte[blocks * BLOCK_BYTES];
        }

        int blockCount() {
            return blocks;
        }

        boolean has(int block, int i) {
            return block >= 0 && block < blocks && i >= 0 && i < BLOCK_BYTES;
        }

        int read(int block, int i) {
            return has(block, i) ? bytes[block * BLOCK_BYTES + i] & MOST_BYTE : 0;
        }

        void alter(int block, int i, int mask) {
            if (has(block, i)) {
                int place = block * BLOCK_BYTES + i;
                bytes[place] = (byte) (bytes[place] ^ mask);
            }
        }

        /** Forgets the change before: only what is written from now on can be undone. */
        void beginChange() {
            changed = 0;
        }

        int writtenBytes() {
            return changed;
        }

        /** Writes the lowest eight bits of a value. */
        void write(int block, int i, int value) {
            if (!has(block, i) || changed < 0 || changed >= MOST_WRITTEN) {
                return;
            }
            int place = block * BLOCK_BYTES + i;
            changedPlaces[changed] = place;
            formerBytes[changed] = bytes[place];
            changed++;
            bytes[place] = (byte) value;
        }

        void undoAllBut(int kept) {
            for (int n = Math.max(0, kept); n < changed && n < MOST_WRITTEN; n++) {
                int place = changedPlaces[n];
                if (place >= 0 && place < bytes.length) {
                    bytes[place] = formerBytes[n];
                }
            }
            changed = 0;
        }

        void writeSum(int block) {
            int sum = sumOf(block);
            for (int i = SUMMED_BYTES; i < BLOCK_BYTES; i++) {
                write(block, i, sum >>> 8 * (i - SUMMED_BYTES));
            }
        }

        boolean hasRightSum(int block) {
            int sum = sumOf(block);
            for (int i = SUMMED_BYTES; i < BLOCK_BYTES; i++) {
                if (read(block, i) != (sum >>> 8 * (i - SUMMED_BYTES) & MOST_BYTE)) {
                    return false;
                }
            }
            return true;
        }

        private int sumOf(int block) {
            int sum = SUM_START;
            for (int i = 0; i < SUMMED_BYTES; i++) {
                int mixed = sum ^ read(block, i);
                sum = (mixed << SUM_TURN | mixed >>> 32 - SUM_TURN) * SUM_FACTOR;
            }
            return sum;
        }
    }
}
