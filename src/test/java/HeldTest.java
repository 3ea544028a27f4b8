/** Promise 10: held. */
public final class HeldTest {
    public static void main(String[] args) {
        heldByTheTransaction();
        notHeldAnyMore();
        blocksAtTheEdges();
        theLogsBlocks();
        blocksThatAreNone();
        askingChangesNothing();
        Due.finish();
    }

    private static void heldByTheTransaction() {
        Due.says("Whether block b is held by the transaction.");
        BlockVault x = new BlockVault(80);
        Due.no("at first", x.held(40));
        x.get(40, 0);
        Due.no("looked at", x.held(40));
        x.begin();
        Due.no("in a step that has not changed it", x.held(40));
        x.fill(40, 0, 1, 1);
        Due.yes("changed", x.held(40));
        Due.no("the one before it", x.held(39));
        Due.no("the one behind it", x.held(41));
        x.end();
        Due.yes("behind the step", x.held(40));
        x.begin();
        x.fill(41, 0, 1, 1);
        Due.yes("in a step that has not changed it", x.held(40));
        Due.yes("in the step that changed it", x.held(41));
    }

    private static void notHeldAnyMore() {
        Due.says("A TRANSACTION is all steps since the latest commit");
        BlockVault x = new BlockVault(80);
        Due.change(x, 0, 20, 1);
        x.flush();
        for (int i = 0; i < 20; i++) {
            Due.no("behind flush", x.held(Due.block(i)));
        }
        Due.change(x, 0, 20, 1);
        Due.yes("the first of twenty", x.held(Due.block(0)));
        Due.yes("the last of twenty", x.held(Due.block(19)));
        Due.change(x, 20, 10, 1);
        for (int i = 0; i < 30; i++) {
            Due.no("behind a commit by end", x.held(Due.block(i)));
        }
        Due.change(x, 0, 2, 1);
        x.cut(3);
        x.flush();
        Due.no("off", x.held(0));
        x.power(-1);
        Due.no("brought home", x.held(0));
    }

    private static void blocksAtTheEdges() {
        Due.says("BLOCKS are 0 .. N - 1");
        int[] sizes = {40, 41, 64, 79, 80};
        for (int n : sizes) {
            BlockVault x = new BlockVault(n);
            int[] there = {0, 1, 33, n - 1};
            x.begin();
            for (int b : there) {
                Due.no("held(" + b + ") of " + n, x.held(b));
                x.fill(b, 0, 1, 1);
                Due.yes("held(" + b + ") of " + n, x.held(b));
            }
            Due.no("held(-1)", x.held(-1));
            Due.no("held(" + n + ")", x.held(n));
        }
    }

    private static void theLogsBlocks() {
        Due.says("2 .. 32 are the log's, and none for all calls.");
        BlockVault x = State.MOST_HELD.make();
        for (int b = 2; b <= 32; b++) {
            x.fill(b, 0, 1, 1);
            Due.no("held(" + b + ")", x.held(b));
        }
        x.end();
        for (int b = 2; b <= 32; b++) {
            Due.no("held(" + b + ") behind the commit", x.held(b));
        }
    }

    private static void blocksThatAreNone() {
        Due.says("Whether block b is held by the transaction.");
        int[] sizes = {40, 50, 80};
        for (int n : sizes) {
            BlockVault x = new BlockVault(n);
            x.begin();
            x.fill(33, 0, 1, 1);
            for (int b : Due.noBlocks(n)) {
                x.fill(b, 0, 1, 1);
                Due.no("held(" + b + ") of " + n, x.held(b));
            }
        }
    }

    private static void askingChangesNothing() {
        Due.says("Nothing is promised beyond the answers and state changes described above");
        int[] some = {Integer.MIN_VALUE, -1, 0, 1, 2, 32, 33, 50, 79, 80, Integer.MAX_VALUE};
        for (State state : State.values()) {
            for (int b : some) {
                Due.changesNothing("held(" + b + ")", state, x -> x.held(b));
            }
        }
        BlockVault x = new BlockVault(80);
        Due.look(x, 0, 34);
        x.held(0);
        Due.look(x, 34, 1);
        Due.no("looked at the longest time ago", x.cached(0));
    }
}
