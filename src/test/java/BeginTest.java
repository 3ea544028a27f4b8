/** Promise 2: begin. */
public final class BeginTest {
    public static void main(String[] args) {
        begins();
        refusedInAStep();
        refusedOneIsNothing();
        beginsBehindEachWayAStepEnds();
        takesNoWrite();
        Due.finish();
    }

    private static void begins() {
        Due.says("A step begins: true");
        for (State state : State.values()) {
            if (state.isOn() && !state.inStep()) {
                BlockVault x = state.make();
                Due.none("count(3) before it in " + state, x.count(3));
                Due.yes("begin in " + state, x.begin());
                Due.is("count(3) behind it in " + state, x.count(3), 0);
                Due.yes("fill in the step in " + state, x.fill(33, 0, 1, 1));
            }
        }
    }

    private static void refusedInAStep() {
        Due.says("false if one is open.");
        for (State state : State.values()) {
            if (state.inStep()) {
                BlockVault x = state.make();
                Due.no("begin in " + state, x.begin());
                Due.no("begin once more in " + state, x.begin());
            }
        }
    }

    private static void refusedOneIsNothing() {
        Due.says("false if one is open.");
        for (State state : State.values()) {
            if (state.inStep()) {
                Due.changesNothing("begin", state, BlockVault::begin);
            }
        }
        BlockVault x = State.FULL_STEP.make();
        x.begin();
        Due.is("ten are still in the step", x.count(3), 10);
        Due.no("the eleventh", x.fill(70, 0, 1, 1));
        Due.is("one end ends it", x.end(), 10);
        Due.none("the next ends nothing", x.end());
    }

    private static void beginsBehindEachWayAStepEnds() {
        Due.says("A STEP is what lies between begin() and end()");
        BlockVault x = new BlockVault(80);
        x.begin();
        x.end();
        Due.yes("behind an empty step", x.begin());
        x.end();
        Due.change(x, 0, 20, 1);
        Due.is("a step that ends by a commit", Due.change(x, 20, 10, 1), 0);
        Due.yes("behind that", x.begin());
        x.end();
        Due.change(x, 0, 20, 2);
        x.cut(0);
        Due.none("a step at whose end the power goes", Due.change(x, 20, 1, 2));
        Due.no("with the power off", x.begin());
        x.power(-1);
        Due.yes("with the power back", x.begin());
    }

    private static void takesNoWrite() {
        Due.says("The power goes at the write behind k more (k is 0 or more)");
        BlockVault x = new BlockVault(80);
        x.cut(0);
        Due.yes("begin", x.begin());
        Due.is("on", x.count(0), 1);
        Due.is("writes", x.count(4), 0);
    }
}
