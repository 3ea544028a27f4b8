/** Promise 4: flush. */
public final class FlushTest {
    public static void main(String[] args) {
        saysHowManyWereHeld();
        writesOfACommit();
        nothingHeld();
        aStepIsOpen();
        refusedOneIsNothing();
        thePowerGoes();
        whichWriteMakesItCount();
        behindTheCommit();
        Due.finish();
    }

    private static void saysHowManyWereHeld() {
        Due.says("Commits: how many blocks the transaction held");
        for (int n = 1; n <= 20; n++) {
            BlockVault x = new BlockVault(80);
            Due.change(x, 0, n, 1);
            Due.is("flush of " + n, x.flush(), n);
            Due.is("flush again", x.flush(), 0);
        }
        BlockVault x = new BlockVault(80);
        Due.change(x, 0, 7, 1);
        Due.change(x, 5, 4, 1);
        Due.is("two steps that share two blocks", x.flush(), 9);
    }

    private static void writesOfACommit() {
        Due.says("That takes 2 * n + 2 WRITES, n being how many blocks it holds: n to the log, one that makes it COUNT,"
            + " n home, one that ends it.");
        for (int n = 1; n <= 20; n++) {
            BlockVault x = new BlockVault(80);
            Due.change(x, 0, n, 1);
            x.flush();
            Due.counts("behind " + n, x, 1, 80, 0, Due.NONE, 2 * n + 2, n, 1);
            Due.change(x, 0, 1, 1);
            x.flush();
            Due.counts("behind one more", x, 1, 80, 0, Due.NONE, 2 * n + 6, n, 2);
        }
    }

    private static void nothingHeld() {
        Due.says("and when flush() asks for that, if it holds any.");
        BlockVault x = new BlockVault(80);
        x.cut(0);
        Due.is("new", x.flush(), 0);
        Due.counts("new", x, 1, 80, 0, Due.NONE, 0, 0, 0);
        x.begin();
        x.get(40, 0);
        x.end();
        Due.is("looked at", x.flush(), 0);
        Due.counts("looked at", x, 1, 80, 0, Due.NONE, 0, 1, 0);
        x.cut(-1);
        Due.change(x, 0, 2, 1);
        x.flush();
        x.cut(0);
        Due.is("committed", x.flush(), 0);
        Due.counts("committed", x, 1, 80, 0, Due.NONE, 6, 3, 1);
        BlockVault y = Due.wentIn(3, 4);
        y.power(4);
        Due.is("brought home, and no write more is to be made", y.flush(), 0);
        Due.is("on", y.count(0), 1);
    }

    private static void aStepIsOpen() {
        Due.says("NONE if a step is open");
        for (State state : State.values()) {
            if (state.inStep()) {
                Due.none("flush in " + state, state.make().flush());
            }
        }
        BlockVault x = new BlockVault(80);
        Due.change(x, 0, 5, 1);
        x.begin();
        Due.none("five held, none of them by the step", x.flush());
        Due.is("they are held on", x.end(), 5);
        Due.is("flush behind the step", x.flush(), 5);
    }

    private static void refusedOneIsNothing() {
        Due.says("NONE if a step is open");
        for (State state : State.values()) {
            if (state.inStep()) {
                Due.changesNothing("flush", state, BlockVault::flush);
            }
        }
    }

    private static void thePowerGoes() {
        Due.says("NONE if a step is open, or the power goes.");
        for (int n = 1; n <= 20; n++) {
            for (int k = 0; k <= 2 * n + 2; k++) {
                BlockVault x = new BlockVault(80);
                Due.change(x, 0, n, 1);
                x.cut(k);
                boolean goes = k < 2 * n + 2;
                Due.is("flush of " + n + ", cut(" + k + ")", x.flush(), goes ? Due.NONE : n);
                Due.is("on", x.count(0), goes ? 0 : 1);
                Due.is("writes", x.count(4), k);
            }
        }
    }

    private static void whichWriteMakesItCount() {
        Due.says("n to the log, one that makes it COUNT, n home, one that ends it.");
        for (int n = 1; n <= 20; n++) {
            Due.is("none to the log", Due.wentIn(n, 0).count(6), 0);
            Due.is("all but one to the log", Due.wentIn(n, n - 1).count(6), 0);
            Due.is("all to the log", Due.wentIn(n, n).count(6), 0);
            Due.is("and the one behind them", Due.wentIn(n, n + 1).count(6), 1);
            Due.is("all home", Due.wentIn(n, 2 * n + 1).count(6), 1);
        }
    }

    private static void behindTheCommit() {
        Due.says("A TRANSACTION is all steps since the latest commit; it HOLDS the blocks that were changed in it.");
        BlockVault x = State.TWENTY_HELD.make();
        x.flush();
        for (int i = 0; i < 20; i++) {
            Due.no("held", x.held(Due.block(i)));
            Due.yes("cached", x.cached(Due.block(i)));
            Due.is("byte", x.get(Due.block(i), 0), 1);
        }
        Due.is("no read by a commit", x.count(5), 20);
        Due.none("no step is open", x.count(3));
        Due.is("a new transaction", Due.change(x, 19, 2, 2), 2);
    }
}
