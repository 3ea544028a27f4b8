/** Promise 8: power. */
public final class PowerTest {
    public static void main(String[] args) {
        itWasOn();
        onceOnIsOn();
        asAtTheVeryBeginning();
        asBehindTheLatestCommit();
        beforeItCounts();
        atTheWriteThatMakesItCount();
        behindThatWrite();
        atTheWriteThatEndsIt();
        endedCommit();
        eachWriteOfSmallCommits();
        eachWriteOfLargeCommits();
        goesAgainAtEachWrite();
        goesAgainAtTheFirst();
        justEnoughWrites();
        thenCut();
        nothingIsHeldNoStepIsOpen();
        theCacheIsEmpty();
        onlyWhatItHeldIsBroughtHome();
        wholeBlocksAreBroughtHome();
        Due.finish();
    }

    private static void itWasOn() {
        Due.says("NONE if it was on (nothing happens)");
        int[] some = {Integer.MIN_VALUE, -1, 0, 1, Integer.MAX_VALUE};
        for (State state : State.values()) {
            if (state.isOn()) {
                for (int k : some) {
                    Due.none("power(" + k + ") in " + state, state.make().power(k));
                    Due.changesNothing("power(" + k + ")", state, x -> x.power(k));
                }
            }
        }
        BlockVault x = new BlockVault(80);
        x.cut(0);
        x.power(-1);
        Due.change(x, 0, 1, 1);
        Due.none("the cut holds on", x.flush());
    }

    private static void onceOnIsOn() {
        Due.says("NONE if it was on (nothing happens)");
        BlockVault x = Due.wentIn(3, 5);
        Due.is("power", x.power(-1), 3);
        Due.none("power again", x.power(0));
        Due.is("on", x.count(0), 1);
        Due.change(x, 0, 1, 1);
        Due.is("no cut by it", x.flush(), 1);
    }

    private static void asAtTheVeryBeginning() {
        Due.says("or at the very beginning");
        for (int k = 0; k <= 10; k++) {
            BlockVault x = Due.wentIn(10, k);
            Due.is("power", x.power(-1), 0);
            Due.is("writes", x.count(4), k);
            for (int i = 0; i < Due.USABLE; i++) {
                Due.is("get behind cut(" + k + ")", x.get(Due.block(i), 0), 0);
            }
        }
    }

    private static void asBehindTheLatestCommit() {
        Due.says("power() brings it back: blocks have the bytes that they had behind the latest commit that counts (its write"
            + " for that was made), or at the very beginning");
        BlockVault x = new BlockVault(80);
        Due.change(x, 0, 4, 1);
        x.flush();
        Due.change(x, 2, 4, 2);
        x.flush();
        Due.change(x, 3, 4, 3);
        x.begin();
        x.fill(Due.block(10), 0, 1, 4);
        x.end();
        x.cut(0);
        x.flush();
        Due.is("power", x.power(-1), 0);
        int[] due = {1, 1, 2, 2, 2, 2, 0, 0, 0, 0, 0};
        for (int i = 0; i < due.length; i++) {
            Due.is("get of " + Due.block(i), x.get(Due.block(i), 0), due[i]);
        }
    }

    private static void beforeItCounts() {
        Due.says("how many blocks were brought home for a commit that was not ended");
        for (int n = 1; n <= 20; n++) {
            for (int k = 0; k < n; k++) {
                BlockVault x = Due.wentIn(n, k);
                Due.is("power behind cut(" + k + ") of " + n, x.power(-1), 0);
                Due.counts("behind it", x, 1, 80, 0, Due.NONE, k, n, 0);
                Due.is("the first block", x.get(Due.block(0), 0), 0);
                Due.is("the last block", x.get(Due.block(n - 1), 0), 0);
            }
        }
    }

    private static void atTheWriteThatMakesItCount() {
        Due.says("the latest commit that counts (its write for that was made)");
        for (int n = 1; n <= 20; n++) {
            BlockVault x = Due.wentIn(n, n);
            Due.is("commits", x.count(6), 0);
            Due.is("power of " + n, x.power(-1), 0);
            Due.counts("behind it", x, 1, 80, 0, Due.NONE, n, n, 0);
            Due.is("the first block", x.get(Due.block(0), 0), 0);
            Due.is("the last block", x.get(Due.block(n - 1), 0), 0);
        }
    }

    private static void behindThatWrite() {
        Due.says("If that commit was not ended, this takes n + 1 writes more (n home, the one that ends it)");
        for (int n = 1; n <= 20; n++) {
            BlockVault x = Due.wentIn(n, n + 1);
            Due.is("commits", x.count(6), 1);
            Due.is("power of " + n, x.power(-1), n);
            Due.counts("behind it", x, 1, 80, 0, Due.NONE, 2 * n + 2, n, 1);
            Due.is("the first block", x.get(Due.block(0), 0), 5);
            Due.is("the last block", x.get(Due.block(n - 1), 0), 5);
        }
    }

    private static void atTheWriteThatEndsIt() {
        Due.says("If that commit was not ended, this takes n + 1 writes more (n home, the one that ends it)");
        for (int n = 1; n <= 20; n++) {
            BlockVault x = Due.wentIn(n, 2 * n + 1);
            Due.is("commits", x.count(6), 1);
            Due.is("power of " + n, x.power(-1), n);
            Due.counts("behind it", x, 1, 80, 0, Due.NONE, 3 * n + 2, n, 1);
            Due.is("the first block", x.get(Due.block(0), 0), 5);
            Due.is("the last block", x.get(Due.block(n - 1), 0), 5);
        }
    }

    private static void endedCommit() {
        Due.says("how many blocks were brought home for a commit that was not ended");
        for (int n = 1; n <= 20; n++) {
            BlockVault x = new BlockVault(80);
            Due.change(x, 0, n, 5);
            x.cut(2 * n + 2);
            Due.is("flush of " + n, x.flush(), n);
            Due.change(x, 0, 1, 6);
            Due.none("the write behind it", x.flush());
            Due.is("power", x.power(-1), 0);
            Due.is("writes", x.count(4), 2 * n + 2);
            Due.is("get", x.get(0, 0), 5);
        }
    }

    private static void eachWriteOfSmallCommits() {
        Due.says("wholly or not at all, wherever the power goes");
        for (int n = 1; n <= 20; n++) {
            for (int k = 0; k < 2 * n + 2; k++) {
                BlockVault x = committed();
                Due.change(x, 0, n, 2);
                x.cut(k);
                Due.none("flush of " + n + ", cut(" + k + ")", x.flush());
                whollyOrNotAtAll(x, n, k);
            }
        }
    }

    private static void eachWriteOfLargeCommits() {
        Due.says("wholly or not at all, wherever the power goes");
        for (int n = 21; n <= 30; n++) {
            for (int k = 0; k < 2 * n + 2; k++) {
                BlockVault x = committed();
                Due.change(x, 0, 20, 2);
                x.cut(k);
                Due.none("end of " + n + ", cut(" + k + ")", Due.change(x, 20, n - 20, 2));
                whollyOrNotAtAll(x, n, k);
            }
        }
    }

    /** The first twenty blocks are changed to 1, and that is committed by 42 writes. */
    private static BlockVault committed() {
        BlockVault x = new BlockVault(80);
        Due.change(x, 0, 20, 1);
        x.flush();
        return x;
    }

    private static void whollyOrNotAtAll(BlockVault x, int n, int k) {
        String at = " of " + n + ", cut(" + k + ")";
        boolean counts = k >= n + 1;
        int reads = Math.max(n, 20);
        Due.counts("off" + at, x, 0, 80, 0, Due.NONE, 42 + k, reads, counts ? 2 : 1);
        Due.is("power" + at, x.power(-1), counts ? n : 0);
        Due.counts("on" + at, x, 1, 80, 0, Due.NONE, 42 + k + (counts ? n + 1 : 0), reads, counts ? 2 : 1);
        for (int i = 0; i < Due.USABLE; i++) {
            int before = i < 20 ? 1 : 0;
            Due.is("get of " + Due.block(i) + at, x.get(Due.block(i), 0), counts && i < n ? 2 : before);
        }
    }

    private static void goesAgainAtEachWrite() {
        Due.says("at which the power may go again: it is off then, and the commit still counts.");
        for (int n = 1; n <= 20; n++) {
            BlockVault x = Due.wentIn(n, n + 1);
            int writes = n + 1;
            for (int k = 0; k <= n; k++) {
                Due.none("power(" + k + ") of " + n, x.power(k));
                writes += k;
                Due.counts("behind power(" + k + ") of " + n, x, 0, 80, 0, Due.NONE, writes, n, 1);
            }
            Due.is("power at last", x.power(-1), n);
            Due.counts("at last", x, 1, 80, 0, Due.NONE, writes + n + 1, n, 1);
            for (int i = 0; i < Due.USABLE; i++) {
                Due.is("get of " + Due.block(i), x.get(Due.block(i), 0), i < n ? 5 : 0);
            }
        }
    }

    private static void goesAgainAtTheFirst() {
        Due.says("NONE if it was on (nothing happens), or goes again.");
        BlockVault x = Due.wentIn(20, 21);
        for (int i = 0; i < 100; i++) {
            Due.none("power(0)", x.power(0));
        }
        Due.is("writes", x.count(4), 21);
        Due.is("power(-1)", x.power(-1), 20);
        Due.is("get", x.get(Due.block(19), 0), 5);
        BlockVault y = Due.wentIn(3, 2);
        Due.is("nothing to bring home, so no write", y.power(0), 0);
        Due.is("on", y.count(0), 1);
    }

    private static void justEnoughWrites() {
        Due.says("this takes n + 1 writes more (n home, the one that ends it)");
        for (int n = 1; n <= 20; n++) {
            BlockVault x = Due.wentIn(n, n + 1);
            Due.none("one too few", x.power(n));
            Due.is("just enough", x.power(n + 1), n);
            Due.is("on", x.count(0), 1);
            Due.change(x, 0, 1, 9);
            Due.none("none is left", x.flush());
            Due.is("the commit before was ended", x.power(-1), 0);
            Due.is("get", x.get(0, 0), 5);
        }
    }

    private static void thenCut() {
        Due.says("The power comes back, and then cut(k)");
        BlockVault x = Due.wentIn(2, 1);
        Due.is("nothing to bring home", x.power(3), 0);
        Due.change(x, 0, 1, 1);
        Due.none("three of four writes", x.flush());
        Due.is("writes", x.count(4), 4);
        Due.is("its home again, and two are left", x.power(4), 1);
        Due.change(x, 0, 1, 2);
        Due.none("two of four writes", x.flush());
        Due.is("it counts", x.count(6), 2);
        int[] below = {-1, -2, Integer.MIN_VALUE};
        for (int k : below) {
            BlockVault y = Due.wentIn(2, 4);
            Due.is("power(" + k + ")", y.power(k), 2);
            Due.change(y, 0, 20, 1);
            Due.is("it does not go", y.flush(), 20);
        }
        BlockVault z = Due.wentIn(2, 4);
        Due.is("power of the largest", z.power(Integer.MAX_VALUE), 2);
        Due.change(z, 0, 20, 1);
        Due.is("it does not go", z.flush(), 20);
        BlockVault w = Due.wentIn(2, 4);
        w.power(9);
        w.cut(-1);
        Due.change(w, 0, 20, 1);
        Due.is("a later cut holds", w.flush(), 20);
    }

    private static void nothingIsHeldNoStepIsOpen() {
        Due.says("nothing is held, no step is open.");
        for (int k = 0; k < 44; k++) {
            BlockVault x = new BlockVault(80);
            Due.change(x, 0, 20, 1);
            x.cut(k);
            Due.none("end", Due.change(x, 20, 1, 1));
            x.power(-1);
            Due.is("held", x.count(2), 0);
            Due.none("step", x.count(3));
            Due.no("held", x.held(Due.block(0)));
            Due.none("end of none", x.end());
            Due.is("flush of none", x.flush(), 0);
            Due.no("fill of none", x.fill(40, 0, 1, 1));
            Due.is("a new transaction", Due.change(x, 0, 2, 3), 2);
        }
    }

    private static void theCacheIsEmpty() {
        Due.says("THE CACHE has 34 rows, empty at first and when the power comes back.");
        int[] writes = {0, 5, 6, 11};
        for (int k : writes) {
            BlockVault x = Due.wentIn(5, k);
            x.power(-1);
            for (int b = -1; b <= 80; b++) {
                Due.no("cached(" + b + ")", x.cached(b));
            }
            Due.is("no read by it", x.count(5), 5);
            Due.look(x, 0, 34);
            Due.is("each is read again", x.count(5), 39);
            for (int i = 0; i < 34; i++) {
                Due.yes("34 rows are there again", x.cached(Due.block(i)));
            }
        }
    }

    private static void onlyWhatItHeldIsBroughtHome() {
        Due.says("If that commit was not ended, this takes n + 1 writes more");
        BlockVault x = new BlockVault(80);
        Due.change(x, 0, 20, 1);
        x.flush();
        Due.change(x, 0, 20, 2);
        x.flush();
        Due.change(x, 5, 2, 3);
        x.cut(3);
        x.flush();
        Due.is("two, though the log had twenty before", x.power(-1), 2);
        for (int i = 0; i < 20; i++) {
            Due.is("get of " + Due.block(i), x.get(Due.block(i), 0), i == 5 || i == 6 ? 3 : 2);
        }
        Due.change(x, 8, 3, 4);
        x.cut(3);
        x.flush();
        Due.is("none, though the log had two before", x.power(-1), 0);
        for (int i = 0; i < 20; i++) {
            Due.is("get of " + Due.block(i), x.get(Due.block(i), 0), i == 5 || i == 6 ? 3 : 2);
        }
    }

    private static void wholeBlocksAreBroughtHome() {
        Due.says("blocks have the bytes that they had behind the latest commit that counts");
        for (int k = 0; k < 6; k++) {
            BlockVault x = new BlockVault(80);
            x.begin();
            x.fill(0, 0, 1024, 1);
            x.fill(79, 0, 1024, 2);
            x.end();
            x.flush();
            x.begin();
            x.fill(0, 0, 1024, 100);
            x.fill(79, 3, 5, 200);
            x.end();
            x.cut(k);
            x.flush();
            x.power(-1);
            boolean counts = k >= 3;
            for (int i = 0; i < 1024; i += 5) {
                Due.is("byte " + i + " of 0, cut(" + k + ")", x.get(0, i), (i + (counts ? 100 : 1)) & 255);
                boolean changed = counts && i >= 3 && i < 8;
                Due.is("byte " + i + " of 79, cut(" + k + ")", x.get(79, i), (i + (changed ? 197 : 2)) & 255);
            }
        }
    }
}
