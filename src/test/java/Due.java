import java.util.Arrays;
import java.util.function.Consumer;

/**
 * What the tests share: every answer that is not the one that is due is printed, below the sentence of the
 * document that asks for it, and counted.
 */
final class Due {
    /** The blocks of an object of 80 that are not the log's: 0, 1 and 33 .. 79. */
    static final int USABLE = 49;
    static final int NONE = BlockVault.NONE;

    private static String sentence = "";
    private static String printed = "";
    private static int wrong = 0;
    private static int asked = 0;

    private Due() {
    }

    /** The document's sentence that the answers behind this are due by. */
    static void says(String words) {
        sentence = words;
    }

    static void is(String what, long got, long want) {
        same(what, got, want);
    }

    static void same(String what, Object got, Object want) {
        asked++;
        if (!got.equals(want)) {
            wrong++;
            if (!printed.equals(sentence)) {
                printed = sentence;
                System.out.println("The document: " + sentence);
            }
            System.out.println("  " + what + " answered " + got + ", due is " + want);
        }
    }

    static void yes(String what, boolean got) {
        is(what, got ? 1 : 0, 1);
    }

    static void no(String what, boolean got) {
        is(what, got ? 1 : 0, 0);
    }

    static void none(String what, long got) {
        is(what, got, NONE);
    }

    /** count(0), count(1) and so on. */
    static void counts(String when, BlockVault x, int... due) {
        for (int what = 0; what < due.length; what++) {
            is("count(" + what + ") " + when, x.count(what), due[what]);
        }
    }

    static void finish() {
        System.out.println(wrong == 0 ? asked + " answers are as due" : wrong + " of " + asked + " answers are not as due");
        if (wrong != 0) {
            System.exit(1);
        }
    }

    /** The i-th block that is not the log's. */
    static int block(int i) {
        return i < 2 ? i : i + 31;
    }

    /** What is no block of an object of n: the log's, those below 0, and those from n on. */
    static int[] noBlocks(int n) {
        int[] others = {-1, -2, -31, -256, Integer.MIN_VALUE, Integer.MIN_VALUE + 33, n, n + 1, 80, 81, 256, 256 + 33,
            1024, 65536 + 33, Integer.MAX_VALUE};
        int[] all = Arrays.copyOf(others, others.length + 31);
        for (int i = 0; i < 31; i++) {
            all[others.length + i] = 2 + i;
        }
        return all;
    }

    /** Changes the first byte of the usable blocks from .. from + n - 1 to v, in steps of at most ten. */
    static int change(BlockVault x, int from, int n, int v) {
        int answer = 0;
        for (int done = 0; done < n; done += 10) {
            yes("begin() in change", x.begin());
            for (int i = done; i < n && i < done + 10; i++) {
                yes("fill() in change", x.fill(block(from + i), 0, 1, v));
            }
            answer = x.end();
        }
        return answer;
    }

    /** Looks at the usable blocks from .. from + n - 1. */
    static void look(BlockVault x, int from, int n) {
        for (int i = from; i < from + n; i++) {
            x.get(block(i), 0);
        }
    }

    /** An object of 80 blocks whose power went at the write behind k more of a flush of n blocks (changed to 5). */
    static BlockVault wentIn(int n, int k) {
        BlockVault x = new BlockVault(80);
        is("change() of " + n, change(x, 0, n, 5), n);
        yes("cut(" + k + ")", x.cut(k));
        none("flush() that is cut", x.flush());
        return x;
    }

    /** The call changes nothing: an object with it and one without it answer the same from then on. */
    static void changesNothing(String what, State state, Consumer<BlockVault> call) {
        BlockVault with = state.make();
        BlockVault without = state.make();
        call.accept(with);
        sameFromNow(what + " in " + state + ", then ", with, without);
    }

    private static void sameFromNow(String then, BlockVault x, BlockVault y) {
        sameToLookAt(then, x, y);
        for (int i = 0; i < 11; i++) {
            int b = block(USABLE - 1 - i);
            is(then + "fill", x.fill(b, 7, 1, i) ? 1 : 0, y.fill(b, 7, 1, i) ? 1 : 0);
        }
        is(then + "end", x.end(), y.end());
        is(then + "begin", x.begin() ? 1 : 0, y.begin() ? 1 : 0);
        is(then + "fill", x.fill(33, 9, 1, 3) ? 1 : 0, y.fill(33, 9, 1, 3) ? 1 : 0);
        is(then + "end", x.end(), y.end());
        is(then + "flush", x.flush(), y.flush());
        is(then + "power", x.power(-1), y.power(-1));
        sameToLookAt(then + "at last, ", x, y);
    }

    private static void sameToLookAt(String then, BlockVault x, BlockVault y) {
        for (int what = 0; what < 7; what++) {
            is(then + "count(" + what + ")", x.count(what), y.count(what));
        }
        for (int i = 0; i < USABLE; i++) {
            int b = block(i);
            is(then + "held(" + b + ")", x.held(b) ? 1 : 0, y.held(b) ? 1 : 0);
            is(then + "cached(" + b + ")", x.cached(b) ? 1 : 0, y.cached(b) ? 1 : 0);
        }
        for (int i = 0; i < USABLE; i++) {
            is(then + "get(" + block(i) + ", 0)", x.get(block(i), 0), y.get(block(i), 0));
        }
        is(then + "reads", x.count(5), y.count(5));
    }
}
