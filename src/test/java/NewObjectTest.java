/** Promise 1: a new object. */
public final class NewObjectTest {
    public static void main(String[] args) {
        tooFewBlocks();
        tooManyBlocks();
        blocksBetween();
        powerIsOn();
        allBytesAreZero();
        nothingHasHappened();
        Due.finish();
    }

    private static void tooFewBlocks() {
        Due.says("N is blocks, but 40 if that is less");
        int[] less = {Integer.MIN_VALUE, Integer.MIN_VALUE + 1, -80, -40, -1, 0, 1, 2, 32, 33, 38, 39};
        for (int blocks : less) {
            hasBlocks(blocks, 40);
        }
    }

    private static void tooManyBlocks() {
        Due.says("and 80 if that is more.");
        int[] more = {81, 82, 120, 256, 256 + 50, 1024, Integer.MAX_VALUE - 1, Integer.MAX_VALUE};
        for (int blocks : more) {
            hasBlocks(blocks, 80);
        }
    }

    private static void blocksBetween() {
        Due.says("N is blocks");
        for (int blocks = 40; blocks <= 80; blocks++) {
            hasBlocks(blocks, blocks);
        }
    }

    private static void hasBlocks(int blocks, int n) {
        String of = "of a new one of " + blocks;
        BlockVault x = new BlockVault(blocks);
        Due.is("count(1) " + of, x.count(1), n);
        x.begin();
        Due.is("get of the last " + of, x.get(n - 1, 1023), 0);
        Due.yes("fill of the last " + of, x.fill(n - 1, 0, 1024, 1));
        Due.yes("held of the last " + of, x.held(n - 1));
        Due.yes("cached of the last " + of, x.cached(n - 1));
        Due.none("get of the one behind it " + of, x.get(n, 0));
        Due.no("fill of the one behind it " + of, x.fill(n, 0, 1, 1));
        Due.no("held of the one behind it " + of, x.held(n));
        Due.no("cached of the one behind it " + of, x.cached(n));
    }

    private static void powerIsOn() {
        Due.says("The power is on.");
        int[] some = {Integer.MIN_VALUE, 0, 39, 40, 80, 81, Integer.MAX_VALUE};
        for (int blocks : some) {
            BlockVault x = new BlockVault(blocks);
            Due.is("count(0)", x.count(0), 1);
            Due.none("power(-1)", x.power(-1));
            Due.is("a first commit of 2", Due.change(x, 0, 2, 1) + x.flush(), 4);
        }
    }

    private static void allBytesAreZero() {
        Due.says("BLOCKS are 0 .. N - 1, of 1,024 bytes each, all 0 at first");
        for (int i = 0; i < Due.USABLE; i++) {
            for (int half = 0; half < 2; half++) {
                BlockVault x = new BlockVault(80);
                for (int k = half * 512; k < half * 512 + 512; k++) {
                    Due.is("get(" + Due.block(i) + ", " + k + ")", x.get(Due.block(i), k), 0);
                }
            }
        }
    }

    private static void nothingHasHappened() {
        Due.says("THE CACHE has 34 rows, empty at first");
        BlockVault x = new BlockVault(80);
        Due.counts("at first", x, 1, 80, 0, Due.NONE, 0, 0, 0);
        for (int b = 0; b < 80; b++) {
            Due.no("held(" + b + ")", x.held(b));
            Due.no("cached(" + b + ")", x.cached(b));
        }
    }
}
