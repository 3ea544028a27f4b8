/** Promise 7: cut. */
public final class CutTest {
    public static void main(String[] args) {
        atTheNextWrite();
        behindKMore();
        overSeveralCommits();
        farOff();
        belowZero();
        theLatestHolds();
        onlyWritesCount();
        thatOneIsNotMade();
        itIsOff();
        refusedOneIsNothing();
        Due.finish();
    }

    private static void atTheNextWrite() {
        Due.says("The power goes at the write behind k more (k is 0 or more)");
        BlockVault x = new BlockVault(80);
        Due.change(x, 0, 3, 1);
        Due.yes("cut(0)", x.cut(0));
        Due.is("still on", x.count(0), 1);
        Due.none("flush", x.flush());
        Due.is("off", x.count(0), 0);
        Due.is("no write", x.count(4), 0);
    }

    private static void behindKMore() {
        Due.says("POWER. cut(k): the power goes at the write that comes when k more were made");
        for (int k = 0; k < 12; k++) {
            BlockVault x = Due.wentIn(5, k);
            Due.is("off behind cut(" + k + ")", x.count(0), 0);
            Due.is("writes behind cut(" + k + ")", x.count(4), k);
        }
        BlockVault x = new BlockVault(80);
        Due.change(x, 0, 5, 1);
        Due.yes("cut(12)", x.cut(12));
        Due.is("flush of 12 writes", x.flush(), 5);
        Due.is("on", x.count(0), 1);
        Due.change(x, 0, 1, 1);
        Due.none("the next write", x.flush());
        Due.is("writes", x.count(4), 12);
    }

    private static void overSeveralCommits() {
        Due.says("The power goes at the write behind k more (k is 0 or more)");
        for (int k = 0; k < 40; k++) {
            BlockVault x = new BlockVault(80);
            x.cut(k);
            int commit = 0;
            for (; commit < 20 && x.count(0) == 1; commit++) {
                Due.change(x, commit, 1, 1);
                x.flush();
            }
            Due.is("commits begun by cut(" + k + ")", commit, k / 4 + 1);
            Due.is("writes by cut(" + k + ")", x.count(4), k);
        }
    }

    private static void farOff() {
        Due.says("The power goes at the write behind k more (k is 0 or more)");
        int[] far = {1000, Integer.MAX_VALUE - 1, Integer.MAX_VALUE};
        for (int k : far) {
            BlockVault x = new BlockVault(80);
            Due.yes("cut(" + k + ")", x.cut(k));
            for (int i = 0; i < 10; i++) {
                Due.change(x, i, 9, i);
                Due.is("flush", x.flush(), 9);
            }
            Due.is("on", x.count(0), 1);
        }
    }

    private static void belowZero() {
        Due.says("for k below 0 it does not.");
        int[] below = {-1, -2, -1000, Integer.MIN_VALUE + 1, Integer.MIN_VALUE};
        for (int k : below) {
            BlockVault x = new BlockVault(80);
            x.cut(0);
            Due.yes("cut(" + k + ")", x.cut(k));
            for (int i = 0; i < 10; i++) {
                Due.change(x, i, 9, i);
                Due.is("flush", x.flush(), 9);
            }
            Due.is("on", x.count(0), 1);
            Due.is("writes", x.count(4), 200);
        }
    }

    private static void theLatestHolds() {
        Due.says("The power goes at the write behind k more (k is 0 or more); for k below 0 it does not.");
        BlockVault x = new BlockVault(80);
        x.cut(0);
        x.cut(5);
        Due.change(x, 0, 1, 1);
        Due.is("a later one is larger", x.flush(), 1);
        x.cut(2);
        Due.change(x, 0, 1, 1);
        Due.none("a later one behind four writes", x.flush());
        Due.is("writes", x.count(4), 6);
        BlockVault y = new BlockVault(80);
        y.cut(9);
        y.cut(0);
        Due.change(y, 0, 1, 1);
        Due.none("a later one is smaller", y.flush());
        BlockVault z = new BlockVault(80);
        z.cut(-1);
        z.cut(1);
        Due.change(z, 0, 1, 1);
        Due.none("one behind one that is below 0", z.flush());
        Due.is("writes", z.count(4), 1);
    }

    private static void onlyWritesCount() {
        Due.says("The power goes at the write behind k more");
        BlockVault x = new BlockVault(80);
        x.cut(0);
        Due.look(x, 0, 49);
        Due.change(x, 0, 20, 1);
        x.flush();
        Due.is("off by a flush alone", x.count(4), 0);
        BlockVault y = new BlockVault(80);
        y.cut(1);
        y.begin();
        y.fill(40, 0, 1024, 1);
        y.get(40, 0);
        y.get(41, 0);
        y.held(40);
        y.cached(41);
        y.count(4);
        y.power(0);
        y.end();
        Due.is("on", y.count(0), 1);
        Due.none("flush", y.flush());
        Due.is("one write", y.count(4), 1);
    }

    private static void thatOneIsNotMade() {
        Due.says("that one is not made, and nothing goes on.");
        BlockVault x = new BlockVault(80);
        Due.change(x, 0, 2, 1);
        x.cut(2);
        x.flush();
        Due.counts("at the write that makes it count", x, 0, 80, 0, Due.NONE, 2, 2, 0);
        x.power(-1);
        Due.is("it was not made", x.get(0, 0), 0);
        BlockVault y = Due.wentIn(2, 5);
        Due.counts("at the write that ends it", y, 0, 80, 0, Due.NONE, 5, 2, 1);
        Due.is("it was not ended", y.power(-1), 2);
    }

    private static void itIsOff() {
        Due.says("False (and nothing) if it is off, else true.");
        int[] some = {Integer.MIN_VALUE, -1, 0, 1, 7, Integer.MAX_VALUE};
        for (State state : State.values()) {
            for (int k : some) {
                Due.is("cut(" + k + ") in " + state, state.make().cut(k) ? 1 : 0, state.isOn() ? 1 : 0);
            }
        }
    }

    private static void refusedOneIsNothing() {
        Due.says("False (and nothing) if it is off");
        for (State state : State.values()) {
            if (!state.isOn()) {
                Due.changesNothing("cut(0)", state, x -> x.cut(0));
                Due.changesNothing("cut(2)", state, x -> x.cut(2));
                Due.changesNothing("cut(-1)", state, x -> x.cut(-1));
            }
        }
        BlockVault x = Due.wentIn(2, 0);
        x.cut(0);
        x.power(-1);
        Due.change(x, 0, 1, 1);
        Due.is("no cut behind power(-1)", x.flush(), 1);
        BlockVault y = Due.wentIn(2, 0);
        y.cut(-1);
        y.power(0);
        Due.change(y, 0, 1, 1);
        Due.none("cut(0) behind power(0)", y.flush());
    }
}
