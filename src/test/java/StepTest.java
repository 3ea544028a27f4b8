/** Promises 1, 2, 3 and 6: a new object, begin, end, fill. */
public final class StepTest {
    public static void main(String[] args) {
        newObjects();
        newObjectIsEmpty();
        begins();
        ends();
        endWithNothingChanged();
        fillsBytes();
        fillRefusesWrongBlocks();
        fillRefusesWrongRuns();
        fillRefusesTheEleventhBlock();
        refusedFillChangesNothing();
        sameBytesAreAChange();
        Due.finish();
    }

    private static void newObjects() {
        int[] asked = {Integer.MIN_VALUE, -1, 0, 39, 40, 41, 64, 79, 80, 81, Integer.MAX_VALUE};
        int[] due = {40, 40, 40, 40, 40, 41, 64, 79, 80, 80, 80};
        for (int i = 0; i < asked.length; i++) {
            BlockVault x = new BlockVault(asked[i]);
            Due.is("count(1) of " + asked[i], x.count(1), due[i]);
            Due.is("count(0) of " + asked[i], x.count(0), 1);
            Due.is("last block of " + asked[i], x.get(due[i] - 1, 0), 0);
            Due.is("block behind the last of " + asked[i], x.get(due[i], 0), BlockVault.NONE);
        }
    }

    private static void newObjectIsEmpty() {
        BlockVault x = new BlockVault(80);
        Due.is("held", x.count(2), 0);
        Due.is("step", x.count(3), BlockVault.NONE);
        Due.is("writes", x.count(4), 0);
        Due.is("reads", x.count(5), 0);
        Due.is("commits", x.count(6), 0);
        for (int i = 0; i < Due.USABLE; i++) {
            Due.no("cached", x.cached(Due.block(i)));
            Due.is("first byte", x.get(Due.block(i), 0), 0);
            Due.is("last byte", x.get(Due.block(i), 1023), 0);
        }
    }

    private static void begins() {
        BlockVault x = new BlockVault(50);
        Due.yes("begin", x.begin());
        Due.no("begin in a step", x.begin());
        Due.is("step", x.count(3), 0);
        x.end();
        Due.is("no step", x.count(3), BlockVault.NONE);
        Due.yes("begin again", x.begin());
        Due.no("begin without power", Due.dark().begin());
    }

    private static void ends() {
        BlockVault x = new BlockVault(80);
        Due.is("end of no step", x.end(), BlockVault.NONE);
        Due.is("7 held", Due.change(x, 0, 7, 1), 7);
        Due.is("end twice", x.end(), BlockVault.NONE);
        Due.is("the same 7 and 3 more", Due.change(x, 0, 10, 2), 10);
        Due.is("20 held", Due.change(x, 10, 10, 3), 20);
        Due.is("no write yet", x.count(4), 0);
        Due.is("the 21st", Due.change(x, 20, 1, 4), 0);
        Due.is("writes of 21", x.count(4), 44);
        Due.is("one commit", x.count(6), 1);
        Due.is("nothing held", x.count(2), 0);
        Due.is("a new transaction", Due.change(x, 3, 2, 5), 2);
        BlockVault y = new BlockVault(80);
        Due.change(y, 0, 20, 1);
        Due.is("30 held at once", Due.change(y, 20, 10, 1), 0);
        Due.is("writes of 30", y.count(4), 62);
        BlockVault z = new BlockVault(80);
        Due.change(z, 0, 20, 1);
        z.cut(43);
        Due.is("end, the power goes", Due.change(z, 20, 1, 1), BlockVault.NONE);
        Due.is("43 writes made", z.count(4), 43);
        Due.is("end without power", z.end(), BlockVault.NONE);
    }

    private static void endWithNothingChanged() {
        BlockVault x = new BlockVault(80);
        x.begin();
        Due.is("empty step", x.end(), 0);
        Due.change(x, 0, 4, 1);
        x.begin();
        Due.is("empty step behind 4", x.end(), 4);
    }

    private static void fillsBytes() {
        BlockVault x = new BlockVault(64);
        x.begin();
        Due.yes("whole block", x.fill(33, 0, 1024, 250));
        for (int k = 0; k < 1024; k++) {
            Due.is("byte " + k, x.get(33, k), (250 + k) % 256);
        }
        Due.yes("below 0", x.fill(34, 10, 3, -2));
        int[] due = {0, 254, 255, 0, 0};
        for (int i = 0; i < due.length; i++) {
            Due.is("from -2 on", x.get(34, 9 + i), due[i]);
        }
        Due.yes("v wraps around", x.fill(35, 0, 2, Integer.MAX_VALUE));
        Due.is("of the largest v", x.get(35, 0), 255);
        Due.is("behind the largest v", x.get(35, 1), 0);
        Due.yes("last byte", x.fill(35, 1023, 1, 77));
        Due.is("last byte", x.get(35, 1023), 77);
        Due.is("the one before", x.get(35, 1022), 0);
        Due.yes("over the former", x.fill(33, 1, 2, 9));
        Due.is("left of it", x.get(33, 0), 250);
        Due.is("in it", x.get(33, 2), 10);
        Due.is("right of it", x.get(33, 3), 253);
    }

    private static void fillRefusesWrongBlocks() {
        BlockVault x = new BlockVault(50);
        Due.no("no step", x.fill(40, 0, 1, 1));
        x.begin();
        for (int b = 2; b <= 32; b++) {
            Due.no("the log's block " + b, x.fill(b, 0, 1, 1));
        }
        int[] wrong = {-1, 50, 80, Integer.MIN_VALUE, Integer.MAX_VALUE};
        for (int b : wrong) {
            Due.no("no block " + b, x.fill(b, 0, 1, 1));
        }
        int[] right = {0, 1, 33, 49};
        for (int b : right) {
            Due.yes("block " + b, x.fill(b, 0, 1, 1));
        }
        x.end();
        Due.no("step ended", x.fill(40, 0, 1, 1));
        Due.no("no power", Due.dark().fill(40, 0, 1, 1));
    }

    private static void fillRefusesWrongRuns() {
        BlockVault x = new BlockVault(50);
        x.begin();
        int[][] wrong = {{0, 0}, {0, -1}, {0, 1025}, {1, 1024}, {1023, 2}, {1024, 1}, {-1, 1}, {-1, 1024},
            {1024, 0}, {Integer.MAX_VALUE, 1}, {Integer.MIN_VALUE, 1}, {1, Integer.MAX_VALUE},
            {0, Integer.MIN_VALUE}, {Integer.MAX_VALUE, Integer.MAX_VALUE}};
        for (int[] run : wrong) {
            Due.no("run " + run[0] + ", " + run[1], x.fill(40, run[0], run[1], 1));
        }
        int[][] right = {{0, 1}, {0, 1024}, {1, 1023}, {1023, 1}, {512, 512}};
        for (int[] run : right) {
            Due.yes("run " + run[0] + ", " + run[1], x.fill(41, run[0], run[1], 1));
        }
        Due.is("one block in the step", x.count(3), 1);
    }

    private static void fillRefusesTheEleventhBlock() {
        BlockVault x = new BlockVault(80);
        Due.change(x, 0, 3, 1);
        x.begin();
        for (int i = 10; i < 20; i++) {
            Due.yes("block of the step", x.fill(Due.block(i), 0, 1, 1));
        }
        Due.no("the eleventh", x.fill(Due.block(20), 0, 1, 1));
        Due.no("the eleventh, held before", x.fill(Due.block(0), 0, 1, 2));
        Due.yes("one of the ten", x.fill(Due.block(10), 0, 1, 3));
        Due.is("ten", x.count(3), 10);
        Due.is("held", x.end(), 13);
        x.begin();
        Due.yes("in the next step", x.fill(Due.block(20), 0, 1, 1));
        Due.is("one", x.count(3), 1);
    }

    private static void refusedFillChangesNothing() {
        BlockVault x = new BlockVault(80);
        x.fill(40, 0, 1, 1);
        Due.no("not looked at without a step", x.cached(40));
        x.begin();
        x.fill(40, 0, 0, 1);
        x.fill(40, 1, 1024, 1);
        Due.no("not looked at for a wrong run", x.cached(40));
        for (int i = 10; i < 20; i++) {
            x.fill(Due.block(i), 0, 1, 1);
        }
        x.fill(Due.block(25), 0, 1, 1);
        Due.no("not looked at as the eleventh", x.cached(Due.block(25)));
        Due.no("not held as the eleventh", x.held(Due.block(25)));
        Due.is("reads", x.count(5), 10);
        Due.is("held", x.count(2), 10);
        Due.is("its byte", x.get(Due.block(25), 0), 0);
    }

    private static void sameBytesAreAChange() {
        BlockVault x = new BlockVault(80);
        x.begin();
        Due.yes("0 on 0", x.fill(40, 0, 1, 0));
        Due.yes("held", x.held(40));
        Due.is("end", x.end(), 1);
        Due.is("flush", x.flush(), 1);
        Due.is("writes", x.count(4), 4);
    }
}
