/** Promise 3: end. */
public final class EndTest {
    public static void main(String[] args) {
        saysHowManyAreHeld();
        aBlockIsHeldOnce();
        emptySteps();
        twentyAreNotCommitted();
        twentyOneAreCommitted();
        upToThirtyAreCommitted();
        committedAtTheEndAlone();
        behindTheCommit();
        noneIsOpen();
        refusedOneIsNothing();
        thePowerGoes();
        noWriteNoCut();
        Due.finish();
    }

    private static void saysHowManyAreHeld() {
        Due.says("The step ends: how many blocks the transaction holds");
        for (int n = 0; n <= 10; n++) {
            BlockVault x = new BlockVault(80);
            x.begin();
            for (int i = 0; i < n; i++) {
                x.fill(Due.block(i), 0, 1, 1);
            }
            Due.is("end of " + n, x.end(), n);
            Due.none("no step is open", x.count(3));
        }
        BlockVault x = new BlockVault(80);
        Due.is("seven", Due.change(x, 0, 7, 1), 7);
        Due.is("five more in another step", Due.change(x, 7, 5, 1), 12);
        Due.is("two behind a commit", x.flush() + Due.change(x, 3, 2, 1), 14);
    }

    private static void aBlockIsHeldOnce() {
        Due.says("it HOLDS the blocks that were changed in it.");
        BlockVault x = new BlockVault(80);
        x.begin();
        x.fill(40, 0, 1, 1);
        x.fill(40, 1, 1, 1);
        x.fill(40, 0, 1024, 1);
        Due.is("one block, three times", x.end(), 1);
        Due.is("the same in another step", x.begin() && x.fill(40, 0, 1, 2) ? x.end() : Due.NONE, 1);
        x.begin();
        x.get(41, 0);
        Due.is("looked at, not changed", x.end(), 1);
        x.begin();
        x.fill(42, 0, 1, 0);
        Due.is("changed to the byte that it had", x.end(), 2);
    }

    private static void emptySteps() {
        Due.says("The step ends: how many blocks the transaction holds");
        BlockVault x = new BlockVault(80);
        x.begin();
        Due.is("empty, nothing held", x.end(), 0);
        Due.is("no commit by it", x.count(6) + x.count(4), 0);
        Due.change(x, 0, 4, 1);
        x.begin();
        Due.is("empty, four held", x.end(), 4);
        Due.change(x, 4, 16, 1);
        x.begin();
        Due.is("empty, twenty held", x.end(), 20);
        Due.is("no commit by these", x.count(6) + x.count(4), 0);
    }

    private static void twentyAreNotCommitted() {
        Due.says("It is COMMITTED at the end of a step, if it holds more than 20 blocks then");
        BlockVault x = new BlockVault(80);
        Due.is("nineteen", Due.change(x, 0, 19, 1), 19);
        Due.is("twenty", Due.change(x, 19, 1, 1), 20);
        Due.is("the same twenty again", Due.change(x, 0, 20, 2), 20);
        Due.counts("with twenty", x, 1, 80, 20, Due.NONE, 0, 20, 0);
    }

    private static void twentyOneAreCommitted() {
        Due.says("(0 if it was committed by that)");
        BlockVault x = new BlockVault(80);
        Due.change(x, 0, 20, 1);
        Due.is("the twenty-first", Due.change(x, 20, 1, 1), 0);
        Due.counts("behind it", x, 1, 80, 0, Due.NONE, 44, 21, 1);
    }

    private static void upToThirtyAreCommitted() {
        Due.says("That takes 2 * n + 2 WRITES, n being how many blocks it holds");
        for (int held = 11; held <= 20; held++) {
            for (int more = 21 - held; more <= 10; more++) {
                BlockVault x = new BlockVault(80);
                Due.change(x, 0, held, 1);
                Due.is(held + " and " + more, Due.change(x, held, more, 1), 0);
                Due.is("writes of " + (held + more), x.count(4), 2 * (held + more) + 2);
            }
        }
    }

    private static void committedAtTheEndAlone() {
        Due.says("It is COMMITTED at the end of a step");
        BlockVault x = State.MOST_HELD.make();
        Due.counts("with thirty, in the step", x, 1, 80, 30, 10, 0, 30, 0);
        Due.is("end", x.end(), 0);
        Due.counts("behind it", x, 1, 80, 0, Due.NONE, 62, 30, 1);
    }

    private static void behindTheCommit() {
        Due.says("A TRANSACTION is all steps since the latest commit");
        BlockVault x = State.MOST_HELD.make();
        x.end();
        for (int i = 0; i < 30; i++) {
            Due.no("held", x.held(Due.block(i)));
            Due.yes("cached", x.cached(Due.block(i)));
            Due.is("byte", x.get(Due.block(i), 0), i < 20 ? 1 : 2);
        }
        Due.is("a new transaction", Due.change(x, 29, 1, 3), 1);
    }

    private static void noneIsOpen() {
        Due.says("NONE if none is open");
        for (State state : State.values()) {
            if (state.isOn() && !state.inStep()) {
                Due.none("end in " + state, state.make().end());
            }
        }
        BlockVault x = new BlockVault(80);
        x.begin();
        x.end();
        Due.none("end twice", x.end());
        Due.none("end three times", x.end());
    }

    private static void refusedOneIsNothing() {
        Due.says("NONE if none is open");
        for (State state : State.values()) {
            if (state.isOn() && !state.inStep()) {
                Due.changesNothing("end", state, BlockVault::end);
            }
        }
    }

    private static void thePowerGoes() {
        Due.says("NONE if none is open, or the power goes.");
        for (int n = 21; n <= 30; n++) {
            for (int k = 0; k <= 2 * n + 2; k++) {
                BlockVault x = new BlockVault(80);
                Due.change(x, 0, 20, 1);
                x.cut(k);
                boolean goes = k < 2 * n + 2;
                Due.is(n + " blocks, cut(" + k + ")", Due.change(x, 20, n - 20, 1), goes ? Due.NONE : 0);
                Due.counts(n + " blocks, cut(" + k + ")", x, goes ? 0 : 1, 80, 0, Due.NONE, k, n, k > n ? 1 : 0);
            }
        }
    }

    private static void noWriteNoCut() {
        Due.says("the power goes at the write that comes when k more were made");
        BlockVault x = new BlockVault(80);
        x.cut(0);
        Due.is("twenty, so no write", Due.change(x, 0, 20, 1), 20);
        Due.is("on", x.count(0), 1);
        Due.none("twenty-one", Due.change(x, 20, 1, 1));
        Due.is("off", x.count(0), 0);
    }
}
