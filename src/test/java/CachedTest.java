/** Promise 11: cached. */
public final class CachedTest {
    public static void main(String[] args) {
        inTheCache();
        blocksAtTheEdges();
        theLogsBlocks();
        blocksThatAreNone();
        itIsNotLookedAt();
        askingChangesNothing();
        Due.finish();
    }

    private static void inTheCache() {
        Due.says("Whether block b is in the cache.");
        BlockVault x = new BlockVault(80);
        Due.no("at first", x.cached(40));
        x.get(40, 0);
        Due.yes("looked at", x.cached(40));
        Due.no("the one behind it", x.cached(41));
        x.begin();
        x.fill(41, 0, 1, 1);
        Due.yes("changed", x.cached(41));
        x.end();
        x.flush();
        Due.yes("behind the commit", x.cached(41));
        Due.look(x, 11, 34);
        Due.no("given way", x.cached(40));
        Due.no("given way", x.cached(41));
        Due.change(x, 0, 1, 1);
        x.cut(0);
        x.flush();
        Due.no("off", x.cached(0));
        x.power(-1);
        Due.no("with the power back", x.cached(0));
    }

    private static void blocksAtTheEdges() {
        Due.says("BLOCKS are 0 .. N - 1");
        int[] sizes = {40, 41, 64, 79, 80};
        for (int n : sizes) {
            BlockVault x = new BlockVault(n);
            int[] there = {0, 1, 33, n - 1};
            for (int b : there) {
                Due.no("cached(" + b + ") of " + n, x.cached(b));
                x.get(b, 0);
                Due.yes("cached(" + b + ") of " + n, x.cached(b));
            }
            Due.no("cached(-1)", x.cached(-1));
            Due.no("cached(" + n + ")", x.cached(n));
        }
    }

    private static void theLogsBlocks() {
        Due.says("2 .. 32 are the log's, and none for all calls.");
        BlockVault x = State.MOST_HELD.make();
        x.end();
        for (int b = 2; b <= 32; b++) {
            x.get(b, 0);
            Due.no("cached(" + b + ")", x.cached(b));
        }
    }

    private static void blocksThatAreNone() {
        Due.says("Whether block b is in the cache.");
        int[] sizes = {40, 50, 80};
        for (int n : sizes) {
            BlockVault x = new BlockVault(n);
            Due.no("an empty row is no block", x.cached(-1));
            for (int b : Due.noBlocks(n)) {
                x.get(b, 0);
                Due.no("cached(" + b + ") of " + n, x.cached(b));
            }
        }
    }

    private static void itIsNotLookedAt() {
        Due.says("(It is not looked at by that.)");
        BlockVault x = new BlockVault(80);
        x.cached(40);
        Due.no("not in it by asking", x.cached(40));
        Due.is("no read by asking", x.count(5), 0);
        Due.look(x, 0, 34);
        x.cached(0);
        Due.look(x, 34, 1);
        Due.no("looked at the longest time ago", x.cached(0));
        Due.yes("looked at behind it", x.cached(1));
    }

    private static void askingChangesNothing() {
        Due.says("(It is not looked at by that.)");
        int[] some = {Integer.MIN_VALUE, -1, 0, 1, 2, 32, 33, 50, 79, 80, Integer.MAX_VALUE};
        for (State state : State.values()) {
            for (int b : some) {
                Due.changesNothing("cached(" + b + ")", state, x -> x.cached(b));
            }
        }
    }
}
