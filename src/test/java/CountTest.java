/** Promise 9: count. */
public final class CountTest {
    public static void main(String[] args) {
        whetherThePowerIsOn();
        howManyBlocks();
        howManyAreHeld();
        howManyTheStepChanged();
        writesInAll();
        readsInAll();
        commitsThatCounted();
        withThePowerOff();
        anotherWhat();
        askingChangesNothing();
        Due.finish();
    }

    private static void whetherThePowerIsOn() {
        Due.says("What 0: whether the power is on (1 or 0)");
        for (State state : State.values()) {
            Due.is("count(0) in " + state, state.make().count(0), state.isOn() ? 1 : 0);
        }
        BlockVault x = Due.wentIn(3, 4);
        Due.is("off", x.count(0), 0);
        x.power(0);
        Due.is("off again", x.count(0), 0);
        x.power(-1);
        Due.is("on again", x.count(0), 1);
    }

    private static void howManyBlocks() {
        Due.says("1: N");
        int[] asked = {Integer.MIN_VALUE, 39, 40, 41, 79, 80, 81, Integer.MAX_VALUE};
        int[] due = {40, 40, 40, 41, 79, 80, 80, 80};
        for (int i = 0; i < asked.length; i++) {
            Due.is("count(1) of " + asked[i], new BlockVault(asked[i]).count(1), due[i]);
        }
        for (State state : State.values()) {
            Due.is("count(1) in " + state, state.make().count(1), 80);
        }
    }

    private static void howManyAreHeld() {
        Due.says("2: how many blocks are held");
        BlockVault x = new BlockVault(80);
        Due.is("at first", x.count(2), 0);
        Due.look(x, 0, 3);
        Due.is("looked at", x.count(2), 0);
        x.begin();
        x.fill(Due.block(0), 0, 1, 1);
        Due.is("changed", x.count(2), 1);
        x.fill(Due.block(0), 1, 1, 1);
        Due.is("changed again", x.count(2), 1);
        x.end();
        Due.is("behind the step", x.count(2), 1);
        Due.change(x, 1, 19, 1);
        Due.is("twenty", x.count(2), 20);
        x.begin();
        for (int i = 20; i < 30; i++) {
            x.fill(Due.block(i), 0, 1, 1);
        }
        Due.is("thirty, the most", x.count(2), 30);
        x.end();
        Due.is("behind the commit", x.count(2), 0);
    }

    private static void howManyTheStepChanged() {
        Due.says("3: how many blocks the open step has changed, NONE if none is open");
        BlockVault x = new BlockVault(80);
        Due.none("at first", x.count(3));
        Due.change(x, 0, 3, 1);
        Due.none("behind a step", x.count(3));
        x.begin();
        Due.is("empty, though three are held", x.count(3), 0);
        x.fill(Due.block(0), 0, 1, 1);
        Due.is("one of those that were held", x.count(3), 1);
        for (int i = 10; i < 19; i++) {
            x.fill(Due.block(i), 0, 1, 1);
            x.fill(Due.block(i), 9, 1, 1);
            Due.is("more", x.count(3), i - 8);
        }
        x.fill(Due.block(30), 0, 1, 1);
        Due.is("ten, the most", x.count(3), 10);
        x.get(Due.block(31), 0);
        Due.is("looked at in it", x.count(3), 10);
        x.end();
        Due.none("behind it", x.count(3));
        Due.none("behind a flush", x.flush() == 12 ? x.count(3) : 0);
    }

    private static void writesInAll() {
        Due.says("4: writes in all");
        BlockVault x = new BlockVault(80);
        Due.look(x, 0, 49);
        Due.change(x, 0, 3, 1);
        Due.is("none by looking and changing", x.count(4), 0);
        x.flush();
        Due.is("a commit of three", x.count(4), 8);
        Due.change(x, 0, 2, 1);
        x.cut(3);
        x.flush();
        Due.is("three more", x.count(4), 11);
        x.power(1);
        Due.is("one more while brought back", x.count(4), 12);
        x.power(-1);
        Due.is("three more to bring it back", x.count(4), 15);
        Due.is("asked again", x.count(4), 15);
    }

    private static void readsInAll() {
        Due.says("5: reads in all");
        BlockVault x = new BlockVault(80);
        x.get(40, 0);
        x.get(40, 0);
        Due.is("one block", x.count(5), 1);
        Due.change(x, 0, 3, 1);
        Due.is("three changed", x.count(5), 4);
        x.flush();
        Due.is("none by a commit", x.count(5), 4);
        Due.change(x, 0, 3, 1);
        x.cut(4);
        x.flush();
        x.power(-1);
        Due.is("none by bringing home", x.count(5), 4);
        x.get(40, 0);
        Due.is("one behind that", x.count(5), 5);
        x.get(3, 0);
        x.get(40, 1024);
        x.fill(50, 0, 1, 1);
        x.held(51);
        x.cached(52);
        Due.is("none by what looks at nothing", x.count(5), 5);
    }

    private static void commitsThatCounted() {
        Due.says("6: how many commits counted.");
        BlockVault x = new BlockVault(80);
        x.flush();
        Due.is("none by an empty flush", x.count(6), 0);
        Due.change(x, 0, 3, 1);
        Due.is("none by a step", x.count(6), 0);
        x.flush();
        Due.is("one", x.count(6), 1);
        Due.change(x, 0, 20, 1);
        Due.change(x, 20, 1, 1);
        Due.is("one by end()", x.count(6), 2);
        Due.change(x, 0, 2, 1);
        x.cut(2);
        x.flush();
        Due.is("its write was not made", x.count(6), 2);
        x.power(-1);
        Due.change(x, 0, 2, 1);
        x.cut(3);
        x.flush();
        Due.is("its write was made", x.count(6), 3);
        x.power(1);
        x.power(-1);
        Due.is("none by bringing home", x.count(6), 3);
    }

    private static void withThePowerOff() {
        Due.says("With the power off 2 is 0 and 3 NONE.");
        BlockVault x = new BlockVault(64);
        Due.change(x, 0, 20, 1);
        x.cut(22);
        Due.none("end", Due.change(x, 20, 3, 1));
        Due.counts("off before it counts", x, 0, 64, 0, Due.NONE, 22, 23, 0);
        x.power(-1);
        Due.counts("on again", x, 1, 64, 0, Due.NONE, 22, 23, 0);
        Due.change(x, 0, 3, 1);
        x.cut(4);
        x.flush();
        Due.counts("off behind that", x, 0, 64, 0, Due.NONE, 26, 26, 1);
        x.power(2);
        Due.counts("off again", x, 0, 64, 0, Due.NONE, 28, 26, 1);
        x.power(-1);
        Due.counts("on at last", x, 1, 64, 0, Due.NONE, 32, 26, 1);
    }

    private static void anotherWhat() {
        Due.says("NONE for another what.");
        int[] others = {-1, -2, -7, 7, 8, 9, 10, 100, 256, 256 + 1, 65536, Integer.MIN_VALUE, Integer.MIN_VALUE + 1,
            Integer.MAX_VALUE};
        for (State state : State.values()) {
            BlockVault x = state.make();
            for (int what : others) {
                Due.none("count(" + what + ") in " + state, x.count(what));
            }
        }
    }

    private static void askingChangesNothing() {
        Due.says("Nothing is promised beyond the answers and state changes described above");
        for (State state : State.values()) {
            for (int what = -1; what <= 7; what++) {
                int asked = what;
                Due.changesNothing("count(" + what + ")", state, x -> x.count(asked));
            }
        }
    }
}
