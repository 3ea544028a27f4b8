/** Promises 5, 10 and 11: get, held, cached, and the rows of the cache behind them. */
public final class CacheTest {
    public static void main(String[] args) {
        getsBytes();
        getRefuses();
        refusedGetLooksAtNothing();
        heldBlocks();
        cachedBlocks();
        oldestGivesWay();
        lookingAndChangingMakeYoung();
        askingDoesNotMakeYoung();
        heldBlocksStay();
        commitLeavesTheAgeAlone();
        Due.finish();
    }

    private static void getsBytes() {
        BlockVault x = new BlockVault(64);
        x.begin();
        x.fill(0, 0, 3, 7);
        x.fill(63, 1020, 4, 254);
        Due.is("in the step", x.get(0, 2), 9);
        x.end();
        Due.is("behind the step", x.get(63, 1021), 255);
        x.flush();
        Due.is("behind the commit", x.get(63, 1022), 0);
        Due.is("last byte", x.get(63, 1023), 1);
        Due.is("another block", x.get(1, 0), 0);
    }

    private static void getRefuses() {
        BlockVault x = new BlockVault(50);
        for (int b = 2; b <= 32; b++) {
            Due.is("the log's block " + b, x.get(b, 0), BlockVault.NONE);
        }
        int[] wrongBlocks = {-1, 50, 80, Integer.MIN_VALUE, Integer.MAX_VALUE};
        for (int b : wrongBlocks) {
            Due.is("no block " + b, x.get(b, 0), BlockVault.NONE);
        }
        int[] wrongBytes = {-1, 1024, Integer.MIN_VALUE, Integer.MAX_VALUE};
        for (int k : wrongBytes) {
            Due.is("no byte " + k, x.get(40, k), BlockVault.NONE);
        }
        Due.is("no power", Due.dark().get(40, 0), BlockVault.NONE);
    }

    private static void refusedGetLooksAtNothing() {
        BlockVault x = new BlockVault(50);
        x.get(40, 1024);
        x.get(40, -1);
        x.get(5, 0);
        x.get(-1, 0);
        Due.is("reads", x.count(5), 0);
        Due.no("cached", x.cached(40));
    }

    private static void heldBlocks() {
        BlockVault x = new BlockVault(50);
        x.get(41, 0);
        x.begin();
        x.fill(40, 0, 1, 1);
        Due.yes("changed", x.held(40));
        Due.no("looked at", x.held(41));
        x.end();
        Due.yes("behind the step", x.held(40));
        int[] wrong = {-1, 2, 32, 50, 80, Integer.MIN_VALUE, Integer.MAX_VALUE};
        for (int b : wrong) {
            Due.no("no block " + b, x.held(b));
        }
        x.flush();
        Due.no("behind the commit", x.held(40));
        Due.no("no power", Due.dark().held(33));
    }

    private static void cachedBlocks() {
        BlockVault x = new BlockVault(50);
        int[] none = {-1, 2, 32, 40, 50, 80, Integer.MIN_VALUE, Integer.MAX_VALUE};
        for (int b : none) {
            Due.no("not in it: " + b, x.cached(b));
        }
        x.get(40, 0);
        Due.yes("looked at", x.cached(40));
        x.begin();
        x.fill(0, 0, 1, 1);
        Due.yes("changed", x.cached(0));
        x.end();
        x.flush();
        Due.yes("behind the commit", x.cached(0));
        BlockVault y = Due.dark();
        Due.no("no power", y.cached(33));
        y.power(-1);
        Due.no("power came back", y.cached(33));
    }

    private static void oldestGivesWay() {
        BlockVault x = new BlockVault(80);
        for (int i = 0; i < 34; i++) {
            x.get(Due.block(i), 0);
        }
        for (int i = 0; i < 34; i++) {
            Due.yes("34 rows", x.cached(Due.block(i)));
        }
        for (int i = 34; i < Due.USABLE; i++) {
            x.get(Due.block(i), 0);
            Due.no("the oldest", x.cached(Due.block(i - 34)));
            Due.yes("the one behind it", x.cached(Due.block(i - 33)));
            Due.yes("the new one", x.cached(Due.block(i)));
        }
        Due.is("reads", x.count(5), Due.USABLE);
        x.get(Due.block(0), 0);
        Due.is("read again", x.count(5), Due.USABLE + 1);
        Due.is("no write", x.count(4), 0);
    }

    private static void lookingAndChangingMakeYoung() {
        BlockVault x = new BlockVault(80);
        for (int i = 0; i < 34; i++) {
            x.get(Due.block(i), 0);
        }
        x.get(Due.block(0), 5);
        Due.change(x, 1, 1, 1);
        x.flush();
        Due.is("no more reads", x.count(5), 34);
        x.get(Due.block(34), 0);
        Due.yes("looked at again", x.cached(Due.block(0)));
        Due.yes("changed", x.cached(Due.block(1)));
        Due.no("the oldest then", x.cached(Due.block(2)));
    }

    private static void askingDoesNotMakeYoung() {
        BlockVault x = new BlockVault(80);
        for (int i = 0; i < 34; i++) {
            x.get(Due.block(i), 0);
        }
        x.cached(Due.block(0));
        x.held(Due.block(0));
        x.get(Due.block(0), 1024);
        x.fill(Due.block(0), 0, 1, 1);
        x.get(Due.block(34), 0);
        Due.no("still the oldest", x.cached(Due.block(0)));
    }

    private static void heldBlocksStay() {
        BlockVault x = new BlockVault(80);
        Due.change(x, 0, 20, 9);
        x.begin();
        for (int i = 20; i < 30; i++) {
            x.fill(Due.block(i), 0, 1, 9);
        }
        Due.is("most that can be held", x.count(2), 30);
        for (int i = 30; i < Due.USABLE; i++) {
            x.get(Due.block(i), 0);
            Due.yes("the new one", x.cached(Due.block(i)));
            if (i >= 34) {
                Due.no("the oldest of the four", x.cached(Due.block(i - 4)));
            }
        }
        for (int i = 0; i < 30; i++) {
            Due.yes("held ones stay", x.cached(Due.block(i)));
            Due.is("their bytes", x.get(Due.block(i), 0), 9);
        }
        Due.is("reads", x.count(5), Due.USABLE);
        Due.is("end", x.end(), 0);
        Due.is("writes", x.count(4), 62);
    }

    private static void commitLeavesTheAgeAlone() {
        BlockVault x = new BlockVault(80);
        Due.change(x, 0, 2, 4);
        for (int i = 2; i < 34; i++) {
            x.get(Due.block(i), 0);
        }
        x.flush();
        x.get(Due.block(34), 0);
        Due.no("changed first", x.cached(Due.block(0)));
        Due.yes("changed second", x.cached(Due.block(1)));
        Due.is("read from its home", x.get(Due.block(0), 0), 4);
        Due.no("changed second gives way then", x.cached(Due.block(1)));
    }
}
