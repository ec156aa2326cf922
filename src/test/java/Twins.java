import java.util.Arrays;
import java.util.function.Function;
import java.util.function.Supplier;
import java.util.function.ToLongFunction;

/**
 * Shows that a call did nothing: a book that had it and a book that had it not answer alike after it.
 *
 * <p>Each look takes two books of its own, since looks alter a book and it has 512 calls alone.
 */
final class Twins {
    private static final int[] KEPT = {0, 1, 64, 65, 66, 128, 129, 130};

    private final Check check;
    private final String what;
    private final Supplier<PuzzleBook> maker;
    private final ToLongFunction<PuzzleBook> call;
    private final long due;

    private Twins(Check check, String what, Supplier<PuzzleBook> maker, ToLongFunction<PuzzleBook> call, long due) {
        this.check = check;
        this.what = what;
        this.maker = maker;
        this.call = call;
        this.due = due;
    }

    static void dueNothing(
            Check check, String what, Supplier<PuzzleBook> maker, ToLongFunction<PuzzleBook> call, long due) {
        new Twins(check, what, maker, call, due).lookAtAll();
    }

    private void lookAtAll() {
        check.due(what, call.applyAsLong(maker.get()), due);
        look("what the calls tell", Twins::told);
        look("what is fed", Twins::fed);
        look("how many more can be fed", Twins::feeds);
        int blocks = blocksOf(maker.get());
        for (int n = 0; n < blocks; n++) {
            int block = n;
            look("block " + block, book -> Books.block(book, block));
            for (int kept : KEPT) {
                look("block " + block + " behind crash(" + kept + ")", book -> cutOff(book, kept, block));
            }
        }
    }

    private void look(String at, Function<PuzzleBook, int[]> answers) {
        PuzzleBook with = maker.get();
        call.applyAsLong(with);
        int[] got = answers.apply(with);
        int[] want = answers.apply(maker.get());
        check.due(what + " left as it was: " + at, Arrays.equals(got, want), true);
    }

    private static int blocksOf(PuzzleBook book) {
        int blocks = 0;
        while (book.poke(blocks, 0, 1)) {
            blocks++;
        }
        return blocks;
    }

    private static int[] told(PuzzleBook book) {
        int[] told = new int[3 + 41 * 3];
        told[0] = book.free();
        told[1] = book.root();
        told[2] = book.badAt();
        for (int n = 3; n < told.length; n++) {
            told[n] = book.entry(n / 3 - 1, n % 3);
        }
        return told;
    }

    /** Opens the book if it must, and makes room in it, so that the row can be entered. */
    private static int[] fed(PuzzleBook book) {
        if (book.root() == -1) {
            Books.set(book, 0, 0, 1);
            book.reopen();
        }
        book.drop(0);
        int[] fed = new int[52];
        int k = book.put(4242);
        fed[0] = k;
        fed[1] = book.entry(k, 0);
        fed[2] = book.entry(k, 2);
        for (int i = 0; i < 49; i++) {
            fed[3 + i] = book.find(4242, i);
        }
        return fed;
    }

    private static int[] feeds(PuzzleBook book) {
        int taken = 0;
        for (int n = 0; n < 50; n++) {
            taken += book.feed(n) ? 1 : 0;
        }
        return new int[] {taken};
    }

    private static int[] cutOff(PuzzleBook book, int kept, int block) {
        int[] answers = Arrays.copyOf(new int[] {book.crash(kept) ? 1 : 0, book.root(), book.reopen()}, 67);
        System.arraycopy(Books.block(book, block), 0, answers, 3, 64);
        return answers;
    }
}
