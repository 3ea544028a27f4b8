/** Promise 5: get. */
public final class GetTest {
    public static void main(String[] args) {
        bytesOfABlock();
        bytesAreNotBelowZero();
        blocksAtTheEdges();
        theLogsBlocks();
        blocksThatAreNone();
        bytesThatAreNone();
        itIsLookedAt();
        whatIsNoneIsNotLookedAt();
        seesWhatIsChanged();
        Due.finish();
    }

    private static void bytesOfABlock() {
        Due.says("Byte k of block b");
        BlockVault x = new BlockVault(80);
        x.begin();
        x.fill(50, 0, 1024, 3);
        x.fill(50, 0, 1, 91);
        x.fill(50, 1023, 1, 92);
        Due.is("the first", x.get(50, 0), 91);
        Due.is("the second", x.get(50, 1), 4);
        Due.is("the last but one", x.get(50, 1022), (3 + 1022) & 255);
        Due.is("the last", x.get(50, 1023), 92);
        Due.is("of the block before", x.get(49, 1023), 0);
        Due.is("of the block behind", x.get(51, 0), 0);
    }

    private static void bytesAreNotBelowZero() {
        Due.says("The n bytes of block b from k on become the lowest eight bits of v");
        BlockVault x = new BlockVault(80);
        x.begin();
        x.fill(0, 0, 256, 0);
        for (int k = 0; k < 256; k++) {
            Due.is("byte " + k, x.get(0, k), k);
        }
    }

    private static void blocksAtTheEdges() {
        Due.says("BLOCKS are 0 .. N - 1");
        int[] sizes = {40, 41, 64, 79, 80};
        for (int n : sizes) {
            BlockVault x = new BlockVault(n);
            int[] there = {0, 1, 33, 34, n - 2, n - 1};
            for (int b : there) {
                Due.is("get(" + b + ", 0) of " + n, x.get(b, 0), 0);
                Due.is("get(" + b + ", 1023) of " + n, x.get(b, 1023), 0);
            }
            Due.none("get(" + n + ", 0)", x.get(n, 0));
            Due.none("get(-1, 0)", x.get(-1, 0));
        }
    }

    private static void theLogsBlocks() {
        Due.says("2 .. 32 are the log's, and none for all calls.");
        BlockVault x = new BlockVault(80);
        Due.change(x, 0, 20, 1);
        Due.change(x, 20, 10, 1);
        Due.is("they have been written", x.count(4), 62);
        for (int b = 2; b <= 32; b++) {
            Due.none("get(" + b + ", 0)", x.get(b, 0));
            Due.none("get(" + b + ", 1)", x.get(b, 1));
        }
        Due.is("the one before", x.get(1, 0), 1);
        Due.is("the one behind", x.get(33, 0), 1);
    }

    private static void blocksThatAreNone() {
        Due.says("NONE if there is none.");
        int[] sizes = {40, 50, 80};
        for (int n : sizes) {
            BlockVault x = new BlockVault(n);
            for (int b : Due.noBlocks(n)) {
                Due.none("get(" + b + ", 0) of " + n, x.get(b, 0));
                Due.none("get(" + b + ", 1023) of " + n, x.get(b, 1023));
            }
        }
    }

    private static void bytesThatAreNone() {
        Due.says("BLOCKS are 0 .. N - 1, of 1,024 bytes each");
        int[] none = {-1, -2, -1024, 1024, 1025, 2047, 2048, Integer.MIN_VALUE, Integer.MIN_VALUE + 5, Integer.MAX_VALUE};
        for (int k : none) {
            BlockVault x = new BlockVault(80);
            Due.none("get(40, " + k + ")", x.get(40, k));
            x.begin();
            x.fill(40, 0, 1024, 1);
            Due.none("get(40, " + k + ") of what is cached", x.get(40, k));
            Due.none("get(5, " + k + ")", x.get(5, k));
        }
    }

    private static void itIsLookedAt() {
        Due.says("(It is looked at.)");
        BlockVault x = new BlockVault(80);
        x.get(40, 0);
        Due.yes("cached", x.cached(40));
        Due.no("not held", x.held(40));
        Due.is("a read", x.count(5), 1);
        x.get(40, 1023);
        Due.is("no other read", x.count(5), 1);
        Due.look(x, 0, 9);
        Due.look(x, 10, 25);
        Due.no("looked at the longest time ago", x.cached(40));
        BlockVault y = new BlockVault(80);
        Due.look(y, 0, 34);
        y.get(Due.block(0), 500);
        Due.look(y, 34, 1);
        Due.yes("looked at again", y.cached(Due.block(0)));
        Due.no("not looked at again", y.cached(Due.block(1)));
    }

    private static void whatIsNoneIsNotLookedAt() {
        Due.says("NONE if there is none. (It is looked at.)");
        for (State state : State.values()) {
            Due.changesNothing("get(5, 0)", state, x -> x.get(5, 0));
            Due.changesNothing("get(-1, 0)", state, x -> x.get(-1, 0));
            Due.changesNothing("get(80, 0)", state, x -> x.get(80, 0));
            Due.changesNothing("get(79, -1)", state, x -> x.get(79, -1));
            Due.changesNothing("get(79, 1024)", state, x -> x.get(79, 1024));
        }
        BlockVault x = new BlockVault(80);
        Due.look(x, 0, 34);
        x.get(0, 1024);
        x.get(0, -1);
        Due.look(x, 34, 1);
        Due.no("looked at the longest time ago", x.cached(0));
    }

    private static void seesWhatIsChanged() {
        Due.says("what is changed in steps is brought to the disk in transactions");
        BlockVault x = new BlockVault(80);
        x.begin();
        x.fill(40, 3, 2, 8);
        Due.is("in the step", x.get(40, 4), 9);
        x.end();
        Due.is("behind it", x.get(40, 4), 9);
        x.flush();
        Due.is("behind the commit", x.get(40, 4), 9);
        Due.look(x, 9, 40);
        Due.no("not cached any more", x.cached(40));
        Due.is("read from its home", x.get(40, 4), 9);
    }
}
