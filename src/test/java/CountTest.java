/** Promise 9: count. */
public final class CountTest {
    public static void main(String[] args) {
        countsOfANewObject();
        countsInAStep();
        countsBehindCommits();
        otherWhats();
        Due.finish();
    }

    private static void all(BlockVault x, String when, int... due) {
        for (int what = 0; what < due.length; what++) {
            Due.is("count(" + what + ") " + when, x.count(what), due[what]);
        }
    }

    private static void countsOfANewObject() {
        all(new BlockVault(64), "of a new object", 1, 64, 0, BlockVault.NONE, 0, 0, 0);
    }

    private static void countsInAStep() {
        BlockVault x = new BlockVault(64);
        Due.change(x, 0, 3, 1);
        x.begin();
        all(x, "in an empty step", 1, 64, 3, 0, 0, 3, 0);
        x.fill(Due.block(2), 0, 1, 1);
        x.fill(Due.block(2), 7, 1, 1);
        x.fill(Due.block(3), 0, 1, 1);
        all(x, "in a step", 1, 64, 4, 2, 0, 4, 0);
        x.end();
        all(x, "behind it", 1, 64, 4, BlockVault.NONE, 0, 4, 0);
    }

    private static void countsBehindCommits() {
        BlockVault x = new BlockVault(64);
        Due.change(x, 0, 3, 1);
        x.flush();
        all(x, "behind one", 1, 64, 0, BlockVault.NONE, 8, 3, 1);
        Due.change(x, 2, 3, 1);
        x.cut(2);
        x.flush();
        all(x, "behind one that did not count", 0, 64, 0, BlockVault.NONE, 10, 5, 1);
        x.power(-1);
        all(x, "with the power back", 1, 64, 0, BlockVault.NONE, 10, 5, 1);
        Due.change(x, 2, 3, 1);
        x.cut(4);
        x.flush();
        all(x, "behind one that counted", 0, 64, 0, BlockVault.NONE, 14, 8, 2);
        x.power(-1);
        all(x, "with that brought home", 1, 64, 0, BlockVault.NONE, 18, 8, 2);
    }

    private static void otherWhats() {
        int[] wrong = {-1, 7, 8, 100, Integer.MIN_VALUE, Integer.MAX_VALUE};
        for (int what : wrong) {
            Due.is("count(" + what + ")", new BlockVault(64).count(what), BlockVault.NONE);
            Due.is("count(" + what + ") without power", Due.dark().count(what), BlockVault.NONE);
        }
    }
}
