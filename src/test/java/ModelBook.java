import java.util.ArrayList;
import java.util.Arrays;
import java.util.List;

/** The document's words again, as plainly as lists and whole copies of the store allow. */
final class ModelBook {
    final int[][] store;
    private final List<Integer> fed = new ArrayList<>();
    private boolean open = true;
    private int turn = 1;
    private List<Integer> entries = new ArrayList<>();
    private int[][] before = null;
    private List<int[]> places = new ArrayList<>();

    ModelBook(int blocks) {
        store = new int[blocks < 4 ? 4 : blocks > 64 ? 64 : blocks][64];
        store[0][0] = 1;
        store[1] = Books.sealed();
    }

    boolean feed(int b) {
        return b >= 0 && b <= 255 && fed.size() < 48 && fed.add(b);
    }

    int put(int name) {
        if (!open || name < 0 || name > 65535 || fed.isEmpty()) {
            return -1;
        }
        for (int k = 0; k < entries.size(); k++) {
            if (told(k) == fed.size() && row(k).equals(fed)) {
                fed.clear();
                return k;
            }
        }
        if (entries.size() == 40 || free() == 0) {
            return -1;
        }
        int block = 3;
        while (entries.contains(block)) {
            block++;
        }
        startChange();
        write(block, Books.entryBlock(name, array(fed)));
        entries.add(block);
        turnRoot();
        fed.clear();
        return entries.size() - 1;
    }

    int find(int name, int i) {
        int found = -1;
        for (int k = 0; open && k < entries.size(); k++) {
            if (entry(k, 0) == name) {
                found = k;
            }
        }
        return found < 0 || i < 0 || i >= row(found).size() ? -1 : row(found).get(i);
    }

    int entry(int k, int what) {
        if (!open || k < 0 || k >= entries.size() || what < 0 || what > 2) {
            return -1;
        }
        int[] block = store[entries.get(k)];
        return new int[] {block[0] + 256 * block[1], entries.get(k), block[2]}[what];
    }

    boolean drop(int entry) {
        if (!open || entry < 0 || entry >= entries.size()) {
            return false;
        }
        startChange();
        entries.remove(entry);
        turnRoot();
        return true;
    }

    boolean crash(int kept) {
        if (!open || before == null || kept < 0 || kept > places.size()) {
            return false;
        }
        for (int[] place : places.subList(kept, places.size())) {
            store[place[0]][place[1]] = before[place[0]][place[1]];
        }
        open = false;
        return true;
    }

    int reopen() {
        before = null;
        open = false;
        if (store[0][0] != 1 && store[0][0] != 2) {
            return -1;
        }
        turn = store[0][0];
        int[] root = store[turn];
        if (!sumIsRight(turn) || root[0] > 40) {
            return -1 - turn;
        }
        List<Integer> read = new ArrayList<>();
        for (int b : Arrays.copyOfRange(root, 1, 1 + root[0])) {
            if (b < 3 || b >= store.length || read.contains(b)) {
                return -1 - turn;
            }
            read.add(b);
        }
        for (int b = 3; b < store.length; b++) {
            if (read.contains(b) && (!sumIsRight(b) || store[b][2] < 1 || store[b][2] > 48)) {
                return -1 - b;
            }
        }
        entries = read;
        open = true;
        return entries.size();
    }

    boolean poke(int block, int i, int mask) {
        if (!has(block, i) || mask < 1 || mask > 255) {
            return false;
        }
        store[block][i] ^= mask;
        return true;
    }

    int badAt() {
        for (int b = 1; open && b < store.length; b++) {
            if ((b == turn || entries.contains(b)) && !sumIsRight(b)) {
                return b;
            }
        }
        return -1;
    }

    int byteAt(int block, int i) {
        return has(block, i) ? store[block][i] : Books.THROWN;
    }

    int free() {
        int free = 0;
        for (int b = 3; b < store.length; b++) {
            free += entries.contains(b) ? 0 : 1;
        }
        return open ? free : -1;
    }

    int root() {
        return open ? turn : -1;
    }

    private boolean has(int block, int i) {
        return block >= 0 && block < store.length && i >= 0 && i <= 63;
    }

    private int told(int k) {
        return store[entries.get(k)][2];
    }

    private List<Integer> row(int k) {
        List<Integer> row = new ArrayList<>();
        for (int i = 0; i < told(k) && i < 48; i++) {
            row.add(store[entries.get(k)][3 + i]);
        }
        return row;
    }

    private boolean sumIsRight(int b) {
        return Arrays.equals(Books.sum(store[b]), Arrays.copyOfRange(store[b], 60, 64));
    }

    private void startChange() {
        before = new int[store.length][];
        for (int b = 0; b < store.length; b++) {
            before[b] = store[b].clone();
        }
        places = new ArrayList<>();
    }

    private void write(int block, int[] bytes) {
        for (int i = 0; i < bytes.length; i++) {
            store[block][i] = bytes[i];
            places.add(new int[] {block, i});
        }
    }

    private void turnRoot() {
        List<Integer> root = new ArrayList<>(entries);
        root.add(0, entries.size());
        turn = 3 - turn;
        write(turn, Books.sealed(array(root)));
        write(0, new int[] {turn});
    }

    private static int[] array(List<Integer> list) {
        return list.stream().mapToInt(Integer::intValue).toArray();
    }
}
