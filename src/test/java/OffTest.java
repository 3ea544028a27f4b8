/** POWER under "Terms": what each call answers and changes while it is off. */
public final class OffTest {
    private static final int[] SOME = {Integer.MIN_VALUE, -1, 0, 1, 2, 32, 33, 34, 79, 80, Integer.MAX_VALUE};

    public static void main(String[] args) {
        for (State state : State.values()) {
            if (!state.isOn()) {
                begins(state);
                ends(state);
                flushes(state);
                gets(state);
                fills(state);
                cuts(state);
                isHeld(state);
                isCached(state);
                allOfThem(state);
                countAndPowerAnswer(state);
            }
        }
        Due.finish();
    }

    private static void sentence() {
        Due.says("While it is OFF all calls answer NONE or false, but power() and count(), and change nothing.");
    }

    private static void begins(State state) {
        sentence();
        BlockVault x = state.make();
        Due.no("begin in " + state, x.begin());
        Due.none("no step is open by it", x.count(3));
        Due.changesNothing("begin", state, BlockVault::begin);
    }

    private static void ends(State state) {
        sentence();
        Due.none("end in " + state, state.make().end());
        Due.changesNothing("end", state, BlockVault::end);
    }

    private static void flushes(State state) {
        sentence();
        Due.none("flush in " + state, state.make().flush());
        Due.changesNothing("flush", state, BlockVault::flush);
    }

    private static void gets(State state) {
        sentence();
        for (int b : SOME) {
            Due.none("get(" + b + ", 0) in " + state, state.make().get(b, 0));
            Due.changesNothing("get(" + b + ", 0)", state, x -> x.get(b, 0));
        }
    }

    private static void fills(State state) {
        sentence();
        for (int b : SOME) {
            Due.no("fill of " + b + " in " + state, state.make().fill(b, 0, 1, 9));
            Due.changesNothing("fill of " + b, state, x -> x.fill(b, 0, 1024, 9));
        }
    }

    private static void cuts(State state) {
        sentence();
        for (int k : SOME) {
            Due.no("cut(" + k + ") in " + state, state.make().cut(k));
            Due.changesNothing("cut(" + k + ")", state, x -> x.cut(k));
        }
    }

    private static void isHeld(State state) {
        sentence();
        BlockVault x = state.make();
        for (int b = -1; b <= 81; b++) {
            Due.no("held(" + b + ") in " + state, x.held(b));
        }
        Due.changesNothing("held(0)", state, y -> y.held(0));
    }

    private static void isCached(State state) {
        sentence();
        BlockVault x = state.make();
        for (int b = -1; b <= 81; b++) {
            Due.no("cached(" + b + ") in " + state, x.cached(b));
        }
        Due.changesNothing("cached(0)", state, y -> y.cached(0));
    }

    private static void allOfThem(State state) {
        sentence();
        Due.changesNothing("all calls", state, x -> {
            x.begin();
            x.fill(0, 0, 1024, 77);
            x.fill(79, 0, 1024, 77);
            x.end();
            x.cut(0);
            x.flush();
            x.get(0, 0);
            x.held(0);
            x.cached(0);
            x.count(4);
        });
    }

    private static void countAndPowerAnswer(State state) {
        Due.says("all calls answer NONE or false, but power() and count()");
        BlockVault x = state.make();
        boolean counts = state != State.WENT_BEFORE_IT_COUNTED;
        Due.is("count(0) in " + state, x.count(0), 0);
        Due.is("count(1) in " + state, x.count(1), 80);
        Due.is("count(5) in " + state, x.count(5), 3);
        Due.is("count(6) in " + state, x.count(6), counts ? 1 : 0);
        int writes = x.count(4);
        Due.is("power in " + state, x.power(-1), counts ? 3 : 0);
        Due.is("writes by that in " + state, x.count(4), writes + (counts ? 4 : 0));
        Due.is("its byte in " + state, x.get(0, 0), counts ? 5 : 0);
    }
}
