import java.util.ArrayList;
import java.util.List;
import java.util.Random;

/** Runs of up to 512 calls, made by fixed seeds, answered as the model answers them: all promises. */
public final class ModelTest {
    private static final int RUNS = 4000;
    private static final int CALLS = 512;
    private static final int MOST_POKES = 60;
    // No step makes more calls than this, so that no run goes beyond what the document promises.
    private static final int MOST_CALLS_A_STEP = MOST_POKES + 10;
    private static final int[] EDGES = {
        Integer.MIN_VALUE, -65536, -256, -65, -64, -2, -1, 0, 1, 2, 3, 39, 40, 41, 47, 48, 49, 59, 60,
        63, 64, 65, 66, 128, 129, 130, 255, 256, 65535, 65536, 1 << 26, Integer.MAX_VALUE
    };

    private final Check check;
    private final Random random;
    private final ModelBook model;
    private final PuzzleBook book;
    private final int blocks;
    private final int wildness;
    private final int rowBytes;
    private final List<int[]> pokes = new ArrayList<>();
    private int calls = 0;

    private ModelTest(Check check, int seed) {
        this.check = check;
        random = new Random(seed);
        int wanted = seed % 3 == 0 ? 4 + random.nextInt(6) : seed % 3 == 1 ? 40 + random.nextInt(30) : edge();
        wildness = random.nextInt(3) * 4;
        rowBytes = random.nextInt(4) == 0 ? 48 : 1 + random.nextInt(3);
        model = new ModelBook(wanted);
        book = new PuzzleBook(wanted);
        blocks = model.store.length;
    }

    public static void main(String[] args) {
        Check check = new Check("ModelTest");
        for (int seed = 1; seed <= RUNS && check.wrong() < 20; seed++) {
            ModelTest run = new ModelTest(check, seed);
            while (run.calls + MOST_CALLS_A_STEP <= CALLS && check.wrong() < 20) {
                run.step(seed);
            }
        }
        check.end();
    }

    private int edge() {
        return EDGES[random.nextInt(EDGES.length)];
    }

    private int near(int bound) {
        return random.nextInt(12) == 0 ? edge() : random.nextInt(Math.max(1, bound));
    }

    private void due(String call, long got, long want) {
        calls++;
        check.due(call, got, want);
    }

    private void step(int seed) {
        String at = "seed " + seed + ", call " + calls + ": ";
        int kind = random.nextInt(24 + wildness);
        if (kind < 9) {
            enter(at);
        } else if (kind < 18) {
            ask(at, kind);
        } else if (kind < 20) {
            int k = near(Math.max(1, blocks - 3));
            due(at + "drop(" + k + ")", book.drop(k) ? 1 : 0, model.drop(k) ? 1 : 0);
        } else if (kind == 20) {
            int kept = near(130);
            due(at + "crash(" + kept + ")", book.crash(kept) ? 1 : 0, model.crash(kept) ? 1 : 0);
        } else if (kind < 24) {
            unpoke(at);
            due(at + "reopen()", book.reopen(), model.reopen());
        } else if (pokes.size() + 5 <= MOST_POKES) {
            damage(at);
        } else {
            unpoke(at);
        }
    }

    private void enter(String at) {
        int count = random.nextInt(rowBytes + 1);
        for (int i = 0; i < count; i++) {
            int b = random.nextInt(20) == 0 ? edge() : i == 0 ? random.nextInt(64) : 250;
            due(at + "feed(" + b + ")", book.feed(b) ? 1 : 0, model.feed(b) ? 1 : 0);
        }
        int name = near(10) * (random.nextInt(4) == 0 ? 256 : 1);
        due(at + "put(" + name + ")", book.put(name), model.put(name));
    }

    private void ask(String at, int kind) {
        int a = near(kind % 2 == 0 ? 10 : blocks);
        int i = near(kind % 3 == 0 ? 4 : 64);
        switch (kind) {
            case 9:
            case 10:
                due(at + "find(" + a + ", " + i + ")", book.find(a, i), model.find(a, i));
                break;
            case 11:
            case 12:
                due(at + "entry(" + a + ", " + i % 4 + ")", book.entry(a, i % 4), model.entry(a, i % 4));
                break;
            case 13:
                due(at + "badAt()", book.badAt(), model.badAt());
                break;
            case 14:
                due(at + "free()", book.free(), model.free());
                break;
            case 15:
                due(at + "root()", book.root(), model.root());
                break;
            default:
                due(at + "byteAt(" + a + ", " + i + ")", Books.byteOrThrown(book, a, i), model.byteAt(a, i));
        }
    }

    private void pokeBoth(String at, int block, int i, int mask) {
        String call = at + "poke(" + block + ", " + i + ", " + mask + ")";
        due(call, book.poke(block, i, mask) ? 1 : 0, model.poke(block, i, mask) ? 1 : 0);
    }

    private void damage(String at) {
        int block = random.nextInt(3) == 0 ? near(3) : near(blocks);
        int i = random.nextInt(3) == 0 ? near(64) : near(5);
        int mask = random.nextInt(10) == 0 ? edge() : random.nextBoolean() ? 1 << random.nextInt(8) : near(256);
        pokeBoth(at, block, i, mask);
        pokes.add(new int[] {block, i, mask});
        if (random.nextBoolean() && block > 0 && block < blocks) {
            int[] sum = Books.sum(model.store[block]);
            for (int n = 0; n < 4; n++) {
                int wrongBits = sum[n] ^ model.store[block][60 + n];
                pokeBoth(at, block, 60 + n, wrongBits);
                pokes.add(new int[] {block, 60 + n, wrongBits});
            }
        }
        if (random.nextInt(3) == 0) {
            due(at + "reopen()", book.reopen(), model.reopen());
        }
    }

    /** Mostly takes the pokes back, so that books open again. */
    private void unpoke(String at) {
        if (random.nextInt(3) != 0) {
            for (int[] p : pokes) {
                pokeBoth(at, p[0], p[1], p[2]);
            }
            pokes.clear();
            if (model.root() < 0 && model.store[0][0] != 1 && model.store[0][0] != 2) {
                pokeBoth(at, 0, 0, model.store[0][0] ^ 1);
            }
        }
    }
}
