/** Promise 6: fill. */
public final class FillTest {
    public static void main(String[] args) {
        lowestEightBits();
        wrapsAround();
        wrapsAroundTheLargest();
        theBytesAndNoOthers();
        blocksAtTheEdges();
        runsAtTheEdges();
        noStepIsOpen();
        noSuchBlock();
        theLogsBlocks();
        runsTooShort();
        runsTooLong();
        runsThatEndOutside();
        runsThatBeginOutside();
        theEleventhBlock();
        aRefusedOneIsNotOfTheStep();
        refusedOneIsNothing();
        refusedOneLeavesTheAge();
        itIsLookedAt();
        theSameBytes();
        Due.finish();
    }

    private static BlockVault inStep() {
        BlockVault x = new BlockVault(80);
        x.begin();
        return x;
    }

    private static void lowestEightBits() {
        Due.says("become the lowest eight bits of v");
        int[] v = {0, 1, 127, 128, 255, 256, 257, 511, 65536 + 7, -1, -2, -128, -129, -256, -257, Integer.MIN_VALUE,
            Integer.MIN_VALUE + 1, Integer.MAX_VALUE - 1, Integer.MAX_VALUE};
        int[] due = {0, 1, 127, 128, 255, 0, 1, 255, 7, 255, 254, 128, 127, 0, 255, 0, 1, 254, 255};
        BlockVault x = inStep();
        for (int i = 0; i < v.length; i++) {
            Due.yes("fill of " + v[i], x.fill(40, 5, 1, v[i]));
            Due.is("get behind fill of " + v[i], x.get(40, 5), due[i]);
        }
    }

    private static void wrapsAround() {
        Due.says("become the lowest eight bits of v, of v + 1, and so on");
        BlockVault x = inStep();
        x.fill(40, 0, 4, 254);
        x.fill(40, 4, 4, -2);
        int[] due = {254, 255, 0, 1, 254, 255, 0, 1, 0};
        for (int k = 0; k < due.length; k++) {
            Due.is("byte " + k, x.get(40, k), due[k]);
        }
        x.fill(41, 0, 1024, 250);
        for (int k = 0; k < 1024; k += 3) {
            Due.is("byte " + k + " of a whole block", x.get(41, k), (250 + k) % 256);
        }
    }

    private static void wrapsAroundTheLargest() {
        Due.says("become the lowest eight bits of v, of v + 1, and so on");
        BlockVault x = inStep();
        Due.yes("from the largest on", x.fill(40, 1020, 4, Integer.MAX_VALUE));
        Due.yes("over the largest", x.fill(41, 0, 1024, Integer.MAX_VALUE - 2));
        for (int i = 0; i < 4; i++) {
            Due.is("byte " + i + " from the largest on", x.get(40, 1020 + i), (255 + i) % 256);
        }
        for (int k = 0; k < 300; k++) {
            Due.is("byte " + k + " over the largest", x.get(41, k), (253 + k) % 256);
        }
    }

    private static void theBytesAndNoOthers() {
        Due.says("The n bytes of block b from k on");
        int[][] runs = {{0, 1}, {0, 2}, {1, 1}, {500, 24}, {1, 1022}, {1022, 1}, {1022, 2}, {1023, 1}};
        for (int[] run : runs) {
            BlockVault x = inStep();
            x.fill(40, 0, 1024, 0);
            Due.yes("fill of " + run[1] + " from " + run[0], x.fill(40, run[0], run[1], 100));
            int end = run[0] + run[1];
            int[] edges = {0, run[0] - 1, run[0], end - 1, end, 1023};
            for (int k : edges) {
                if (k >= 0 && k < 1024) {
                    boolean in = k >= run[0] && k < end;
                    int due = in ? 100 + k - run[0] : k;
                    Due.is("byte " + k + " behind " + run[1] + " from " + run[0], x.get(40, k), due & 255);
                }
            }
            Due.is("the block before", x.get(39, 1023), 0);
            Due.is("the block behind", x.get(41, 0), 0);
        }
    }

    private static void blocksAtTheEdges() {
        Due.says("BLOCKS are 0 .. N - 1");
        int[] sizes = {40, 41, 64, 79, 80};
        for (int n : sizes) {
            BlockVault x = new BlockVault(n);
            x.begin();
            int[] there = {0, 1, 33, 34, n - 2, n - 1};
            for (int b : there) {
                Due.yes("fill of " + b + " of " + n, x.fill(b, 0, 1024, b));
                Due.is("its byte", x.get(b, 0), b);
            }
            Due.is("end", x.end(), there.length);
        }
    }

    private static void runsAtTheEdges() {
        Due.says("n is not 1 .. 1024, not all of them are in it");
        BlockVault x = inStep();
        int[][] right = {{0, 1}, {0, 1023}, {0, 1024}, {1, 1}, {1, 1023}, {512, 512}, {1022, 2}, {1023, 1}};
        for (int[] run : right) {
            Due.yes("fill of " + run[1] + " from " + run[0], x.fill(40, run[0], run[1], 1));
        }
    }

    private static void noStepIsOpen() {
        Due.says("False, changing nothing (nor looking at it), if no step is open");
        for (State state : State.values()) {
            if (state.isOn() && !state.inStep()) {
                Due.no("fill in " + state, state.make().fill(40, 0, 1, 1));
                Due.changesNothing("fill of a new block", state, x -> x.fill(79, 0, 1, 9));
                Due.changesNothing("fill of block 33", state, x -> x.fill(33, 0, 1, 9));
            }
        }
        BlockVault x = inStep();
        x.fill(40, 0, 1, 1);
        x.end();
        Due.no("behind end", x.fill(40, 0, 1, 2));
        Due.is("its byte", x.get(40, 0), 1);
    }

    private static void noSuchBlock() {
        Due.says("there is no such block");
        int[] sizes = {40, 50, 80};
        for (int n : sizes) {
            BlockVault x = new BlockVault(n);
            x.begin();
            for (int b : Due.noBlocks(n)) {
                Due.no("fill of " + b + " of " + n, x.fill(b, 0, 1, 1));
                Due.no("fill of all of " + b + " of " + n, x.fill(b, 0, 1024, 1));
            }
            Due.counts("behind these", x, 1, n, 0, 0, 0, 0, 0);
        }
    }

    private static void theLogsBlocks() {
        Due.says("2 .. 32 are the log's, and none for all calls.");
        BlockVault x = inStep();
        Due.yes("the one before", x.fill(1, 0, 1, 1));
        for (int b = 2; b <= 32; b++) {
            Due.no("fill of " + b, x.fill(b, 0, 1, 1));
        }
        Due.yes("the one behind", x.fill(33, 0, 1, 1));
        Due.is("two are of the step", x.count(3), 2);
    }

    private static void runsTooShort() {
        Due.says("n is not 1 .. 1024");
        BlockVault x = inStep();
        int[] few = {0, -1, -2, -1024, Integer.MIN_VALUE, Integer.MIN_VALUE + 1};
        int[] from = {0, 1, 5, 1023, 1024, 1025, Integer.MAX_VALUE};
        for (int n : few) {
            for (int k : from) {
                Due.no("fill of " + n + " from " + k, x.fill(40, k, n, 1));
            }
        }
        Due.counts("behind these", x, 1, 80, 0, 0, 0, 0, 0);
    }

    private static void runsTooLong() {
        Due.says("n is not 1 .. 1024");
        BlockVault x = inStep();
        int[] many = {1025, 1026, 2048, 65536 + 1, Integer.MAX_VALUE - 1, Integer.MAX_VALUE};
        int[] from = {0, 1, 1023, -1, -2, -1024, Integer.MIN_VALUE, Integer.MAX_VALUE};
        for (int n : many) {
            for (int k : from) {
                Due.no("fill of " + n + " from " + k, x.fill(40, k, n, 1));
            }
        }
        Due.counts("behind these", x, 1, 80, 0, 0, 0, 0, 0);
    }

    private static void runsThatEndOutside() {
        Due.says("not all of them are in it");
        BlockVault x = inStep();
        for (int n = 1; n <= 1024; n += 11) {
            Due.no("one behind the last: " + n, x.fill(40, 1025 - n, n, 1));
            Due.yes("up to the last: " + n, x.fill(41, 1024 - n, n, 1));
        }
        int[][] wrong = {{1, 1024}, {1023, 2}, {1023, 1024}, {1024, 1}, {1024, 1024}, {1025, 1}, {2048, 1},
            {Integer.MAX_VALUE, 1}, {Integer.MAX_VALUE, 2}, {Integer.MAX_VALUE, 1024}, {Integer.MAX_VALUE - 1023, 1024}};
        for (int[] run : wrong) {
            Due.no("fill of " + run[1] + " from " + run[0], x.fill(40, run[0], run[1], 1));
        }
        Due.no("nothing of it is changed", x.held(40));
        Due.is("get", x.get(40, 1023), 0);
    }

    private static void runsThatBeginOutside() {
        Due.says("not all of them are in it");
        BlockVault x = inStep();
        int[][] wrong = {{-1, 1}, {-1, 2}, {-1, 1024}, {-2, 3}, {-1024, 1024}, {-1023, 1024}, {Integer.MIN_VALUE, 1},
            {Integer.MIN_VALUE, 1024}, {Integer.MIN_VALUE + 5, 3}};
        for (int[] run : wrong) {
            Due.no("fill of " + run[1] + " from " + run[0], x.fill(40, run[0], run[1], 1));
        }
        Due.no("nothing of it is changed", x.held(40));
        Due.is("get", x.get(40, 0), 0);
    }

    private static void theEleventhBlock() {
        Due.says("or it would be the eleventh block of the step.");
        BlockVault x = new BlockVault(80);
        Due.change(x, 0, 3, 1);
        Due.look(x, 40, 1);
        x.begin();
        for (int i = 10; i < 20; i++) {
            Due.yes("block " + (i - 9), x.fill(Due.block(i), 0, 1, 1));
        }
        Due.no("the eleventh", x.fill(Due.block(20), 0, 1, 1));
        Due.no("the eleventh, looked at before", x.fill(Due.block(40), 0, 1, 1));
        Due.no("the eleventh, held before", x.fill(Due.block(0), 0, 1, 2));
        Due.no("the eleventh, asked again", x.fill(Due.block(20), 0, 1, 1));
        for (int i = 10; i < 20; i++) {
            Due.yes("one of the ten again", x.fill(Due.block(i), 0, 1, 3));
        }
        Due.is("ten are of the step", x.count(3), 10);
        Due.is("end", x.end(), 13);
        x.begin();
        Due.yes("in the next step", x.fill(Due.block(20), 0, 1, 1));
        Due.is("the first of it", x.count(3), 1);
        Due.is("the byte that was held before", x.get(Due.block(0), 0), 1);
    }

    private static void aRefusedOneIsNotOfTheStep() {
        Due.says("bytes of at most 10 blocks are changed in it.");
        BlockVault x = inStep();
        for (int i = 0; i < 12; i++) {
            x.fill(Due.block(20 + i), 0, 0, 1);
            x.fill(Due.block(20 + i), 1, 1024, 1);
            x.fill(2 + i, 0, 1, 1);
        }
        Due.is("none is of the step", x.count(3), 0);
        for (int i = 0; i < 10; i++) {
            Due.yes("block " + (i + 1), x.fill(Due.block(i), 0, 1, 1));
        }
        Due.is("ten are", x.count(3), 10);
    }

    private static void refusedOneIsNothing() {
        Due.says("False, changing nothing (nor looking at it)");
        for (State state : State.values()) {
            if (state.inStep()) {
                Due.changesNothing("fill of no block", state, x -> x.fill(-1, 0, 1, 9));
                Due.changesNothing("fill of the log's", state, x -> x.fill(3, 0, 1, 9));
                Due.changesNothing("fill of the one behind the last", state, x -> x.fill(80, 0, 1, 9));
                Due.changesNothing("fill of 0", state, x -> x.fill(79, 0, 0, 9));
                Due.changesNothing("fill of 1025", state, x -> x.fill(79, 0, 1025, 9));
                Due.changesNothing("fill that ends outside", state, x -> x.fill(0, 1, 1024, 9));
                Due.changesNothing("fill that begins outside", state, x -> x.fill(0, -1, 2, 9));
            }
        }
        State[] full = {State.FULL_STEP, State.MOST_HELD};
        for (State state : full) {
            Due.changesNothing("fill of the eleventh", state, x -> x.fill(79, 0, 1, 9));
            Due.changesNothing("fill of the eleventh", state, x -> x.fill(62, 5, 1024 - 5, 9));
        }
        Due.changesNothing("fill of the eleventh, held before", State.MOST_HELD, x -> x.fill(0, 0, 1, 9));
    }

    private static void refusedOneLeavesTheAge() {
        Due.says("changing nothing (nor looking at it)");
        for (int kind = 0; kind < 6; kind++) {
            BlockVault x = new BlockVault(80);
            x.get(79, 0);
            Due.look(x, 0, 33);
            if (kind > 0) {
                x.begin();
            }
            if (kind == 5) {
                for (int i = 0; i < 10; i++) {
                    x.fill(Due.block(i), 0, 1, 1);
                }
            }
            int[] n = {1, 0, 1025, 1024, 2, 1};
            int[] k = {0, 0, 0, 1, -1, 0};
            Due.no("refusal " + kind, x.fill(79, k[kind], n[kind], 1));
            x.get(78, 0);
            Due.no("it gives way behind refusal " + kind, x.cached(79));
        }
    }

    private static void itIsLookedAt() {
        Due.says("A block that is looked at or changed is in one of them from then on: if it was not, that is a READ");
        BlockVault x = new BlockVault(80);
        x.begin();
        x.fill(40, 0, 1, 1);
        Due.yes("cached", x.cached(40));
        Due.yes("held", x.held(40));
        Due.is("a read", x.count(5), 1);
        x.fill(40, 0, 1024, 1);
        Due.is("no other read", x.count(5), 1);
        x.get(41, 0);
        x.fill(41, 0, 1, 1);
        Due.is("looked at before", x.count(5), 2);
        x.fill(42, 0, 1024, 1);
        Due.is("a whole block is read too", x.count(5), 3);
    }

    private static void theSameBytes() {
        Due.says("The n bytes of block b from k on become the lowest eight bits of v, of v + 1, and so on: true.");
        BlockVault x = inStep();
        Due.yes("0 where there is 0", x.fill(40, 0, 1, 0));
        Due.yes("it is held", x.held(40));
        Due.is("it is of the step", x.count(3), 1);
        Due.is("end", x.end(), 1);
        Due.is("flush", x.flush(), 1);
        Due.is("writes", x.count(4), 4);
    }
}
