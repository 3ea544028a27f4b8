/** "What it is": what is changed in steps is on the disk wholly or not at all, wherever the power goes. */
public final class WhatItIsTest {
    private static final int[] SIZES = {1, 2, 3, 9, 10, 11, 19, 20, 21, 29, 30};

    public static void main(String[] args) {
        whereverThePowerGoes();
        alsoWhileItIsBroughtBack();
        againAndAgainWhileItIsBroughtBack();
        stepsOfOneTransaction();
        aTransactionBehindOneThatWasBroughtBack();
        behindTheCacheOfRows();
        Due.finish();
    }

    private static void sentence() {
        Due.says("Blocks on a disk whose power may go at any write, behind a cache of rows and a log: what is changed in"
            + " steps is brought to the disk in transactions, wholly or not at all, wherever the power goes, also while it"
            + " is brought back.");
    }

    private static void whereverThePowerGoes() {
        sentence();
        for (int n : SIZES) {
            for (int k = 0; k < 2 * n + 2; k++) {
                BlockVault x = wentAt(n, k);
                Due.is("power behind cut(" + k + ") of " + n, x.power(-1), k > n ? n : 0);
                changed(x, n, k > n);
            }
        }
    }

    private static void alsoWhileItIsBroughtBack() {
        sentence();
        for (int n : SIZES) {
            for (int k = n + 1; k < 2 * n + 2; k++) {
                for (int again = 0; again <= n; again++) {
                    BlockVault x = wentAt(n, k);
                    Due.none("power(" + again + ") behind cut(" + k + ") of " + n, x.power(again));
                    Due.is("power behind that", x.power(-1), n);
                    changed(x, n, true);
                }
            }
        }
    }

    private static void againAndAgainWhileItIsBroughtBack() {
        sentence();
        int n = 3;
        for (int way = 0; way < 4 * 4 * 4; way++) {
            BlockVault x = wentAt(n, n + 1 + way % 4);
            int[] cuts = {way % 4, way / 4 % 4, way / 16};
            for (int k : cuts) {
                Due.none("power(" + k + ")", x.power(k));
            }
            Due.is("power at last", x.power(n + 1), n);
            changed(x, n, true);
        }
    }

    /** Twenty blocks are committed; n are changed then, and the power goes at the write behind k more of their commit. */
    private static BlockVault wentAt(int n, int k) {
        BlockVault x = new BlockVault(80);
        Due.change(x, 0, 20, 1);
        x.flush();
        Due.change(x, 0, Math.min(n, 20), 2);
        x.cut(k);
        Due.none("commit of " + n + ", cut(" + k + ")", n > 20 ? Due.change(x, 20, n - 20, 2) : x.flush());
        return x;
    }

    private static void changed(BlockVault x, int n, boolean wholly) {
        for (int i = 0; i < Due.USABLE; i++) {
            int before = i < 20 ? 1 : 0;
            Due.is("get of " + Due.block(i) + ", " + n + " changed", x.get(Due.block(i), 0), wholly && i < n ? 2 : before);
        }
    }

    private static void stepsOfOneTransaction() {
        sentence();
        for (int k = 0; k < 8; k++) {
            BlockVault x = new BlockVault(80);
            Due.is("a step", Due.change(x, 5, 2, 6), 2);
            Due.is("another", Due.change(x, 6, 2, 7), 3);
            x.begin();
            Due.is("one without a change", x.end(), 3);
            x.cut(k);
            Due.none("flush, cut(" + k + ")", x.flush());
            x.power(-1);
            int[] due = {0, 6, 7, 7, 0};
            for (int i = 0; i < due.length; i++) {
                Due.is("get of " + Due.block(4 + i) + ", cut(" + k + ")", x.get(Due.block(4 + i), 0), k > 3 ? due[i] : 0);
            }
        }
    }

    /** The log has what the one before it left there. */
    private static void aTransactionBehindOneThatWasBroughtBack() {
        sentence();
        for (int first = 0; first < 8; first++) {
            for (int second = 0; second < 6; second++) {
                BlockVault x = new BlockVault(80);
                Due.change(x, 0, 3, 1);
                x.cut(first);
                x.flush();
                x.power(-1);
                Due.change(x, 2, 2, 2);
                x.cut(second);
                x.flush();
                Due.is("power behind " + first + " and " + second, x.power(-1), second > 2 ? 2 : 0);
                int before = first > 3 ? 1 : 0;
                int[] due = {before, before, second > 2 ? 2 : before, second > 2 ? 2 : 0, 0};
                for (int i = 0; i < due.length; i++) {
                    Due.is("get of " + Due.block(i) + ", " + first + " and " + second, x.get(Due.block(i), 0), due[i]);
                }
            }
        }
    }

    /** More blocks than rows: what was committed is read again, what is held is not lost. */
    private static void behindTheCacheOfRows() {
        sentence();
        BlockVault x = new BlockVault(80);
        Due.is("thirty", Due.change(x, 0, 30, 1), 0);
        Due.is("nineteen more", Due.change(x, 30, 19, 2), 19);
        Due.look(x, 0, 30);
        Due.is("flush", x.flush(), 19);
        Due.look(x, 0, 30);
        for (int i = 0; i < Due.USABLE; i++) {
            Due.is("get of " + Due.block(i), x.get(Due.block(i), 0), i < 30 ? 1 : 2);
        }
    }
}
