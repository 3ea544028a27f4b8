/** Promises 4, 7 and 8: flush, cut, power, with the power going at each write there is. */
public final class PowerTest {
    public static void main(String[] args) {
        flushes();
        cuts();
        powerThatIsOn();
        powerWithNothingToBringHome();
        powerKeepsCounting();
        offChangesNothing();
        newTransactionBehindPower();
        for (int n = 1; n <= 20; n++) {
            for (int k = 0; k <= 2 * n + 2; k++) {
                cutAtEachWrite(n, k, false);
            }
        }
        for (int n = 21; n <= 30; n++) {
            for (int k = 0; k <= 2 * n + 2; k++) {
                cutAtEachWrite(n, k, true);
            }
        }
        for (int n = 1; n <= 20; n++) {
            cutWhileBroughtBack(n);
        }
        Due.finish();
    }

    private static void flushes() {
        BlockVault x = new BlockVault(80);
        Due.is("nothing held", x.flush(), 0);
        x.cut(0);
        Due.is("nothing held, so no write", x.flush(), 0);
        x.cut(-1);
        Due.is("no write", x.count(4), 0);
        Due.is("no commit", x.count(6), 0);
        Due.change(x, 0, 5, 1);
        x.begin();
        Due.is("in a step", x.flush(), BlockVault.NONE);
        Due.is("still held", x.end(), 5);
        Due.is("five", x.flush(), 5);
        Due.is("writes of five", x.count(4), 12);
        Due.is("one commit", x.count(6), 1);
        Due.is("then nothing", x.flush(), 0);
        Due.is("writes as before", x.count(4), 12);
        Due.is("no power", Due.dark().flush(), BlockVault.NONE);
    }

    private static void cuts() {
        BlockVault x = new BlockVault(80);
        Due.yes("cut", x.cut(3));
        Due.yes("cut again", x.cut(4));
        Due.change(x, 0, 1, 1);
        Due.is("the later cut is what holds", x.flush(), 1);
        Due.change(x, 0, 1, 2);
        Due.is("the fifth write is not made", x.flush(), BlockVault.NONE);
        Due.is("four writes", x.count(4), 4);
        Due.no("no power", x.cut(5));
        BlockVault y = new BlockVault(80);
        y.cut(0);
        Due.yes("taken back", y.cut(Integer.MIN_VALUE));
        Due.change(y, 0, 1, 1);
        Due.is("no cut", y.flush(), 1);
        Due.yes("far off", y.cut(Integer.MAX_VALUE));
        Due.change(y, 0, 1, 1);
        Due.is("not yet", y.flush(), 1);
        BlockVault z = Due.dark();
        z.cut(-1);
        z.cut(0);
        Due.is("a refused cut is nothing", z.power(-1), 0);
        Due.change(z, 0, 1, 1);
        Due.is("no cut is left", z.flush(), 1);
    }

    private static void powerThatIsOn() {
        BlockVault x = new BlockVault(80);
        Due.change(x, 0, 1, 1);
        Due.is("on", x.power(0), BlockVault.NONE);
        Due.is("still held", x.count(2), 1);
        Due.yes("still cached", x.cached(0));
        Due.is("no cut by it", x.flush(), 1);
        x.cut(0);
        Due.is("on", x.power(-1), BlockVault.NONE);
        Due.change(x, 0, 1, 1);
        Due.is("the cut stays", x.flush(), BlockVault.NONE);
    }

    private static void powerWithNothingToBringHome() {
        BlockVault x = Due.dark();
        Due.is("no write, so it stays", x.power(0), 0);
        Due.is("on", x.count(0), 1);
        Due.is("no write", x.count(4), 0);
        Due.is("as at the beginning", x.get(33, 0), 0);
        Due.change(x, 0, 1, 1);
        Due.is("its cut holds", x.flush(), BlockVault.NONE);
        Due.is("off", x.count(0), 0);
    }

    private static void powerKeepsCounting() {
        BlockVault x = new BlockVault(80);
        Due.change(x, 0, 2, 1);
        x.cut(3);
        x.flush();
        Due.is("three writes of five", x.power(5), 2);
        Due.change(x, 0, 1, 2);
        Due.is("two are left", x.flush(), BlockVault.NONE);
        Due.is("writes", x.count(4), 8);
        Due.is("it counted", x.count(6), 2);
        Due.is("it is brought home", x.power(-1), 1);
        Due.is("its byte", x.get(0, 0), 2);
        Due.is("the other's byte", x.get(1, 0), 1);
        BlockVault y = new BlockVault(80);
        Due.change(y, 0, 2, 1);
        y.cut(3);
        y.flush();
        Due.is("just enough", y.power(3), 2);
        Due.is("on", y.count(0), 1);
        Due.change(y, 0, 1, 2);
        Due.is("none is left", y.flush(), BlockVault.NONE);
        Due.is("nothing counted", y.power(-1), 0);
        Due.is("the byte before", y.get(0, 0), 1);
    }

    private static void offChangesNothing() {
        BlockVault x = new BlockVault(80);
        Due.change(x, 0, 2, 1);
        x.cut(3);
        x.flush();
        Due.no("begin", x.begin());
        Due.is("end", x.end(), BlockVault.NONE);
        Due.is("flush", x.flush(), BlockVault.NONE);
        Due.is("get", x.get(0, 0), BlockVault.NONE);
        Due.no("fill", x.fill(0, 0, 1, 9));
        Due.no("cut", x.cut(-1));
        Due.no("held", x.held(0));
        Due.no("cached", x.cached(0));
        int[] due = {0, 80, 0, BlockVault.NONE, 3, 2, 1, BlockVault.NONE};
        for (int what = 0; what < due.length; what++) {
            Due.is("count(" + what + ") while off", x.count(what), due[what]);
        }
        Due.is("power", x.power(-1), 2);
        Due.is("no step is open", x.count(3), BlockVault.NONE);
        Due.is("no reads by it", x.count(5), 2);
        Due.no("rows are empty", x.cached(0));
        Due.is("byte", x.get(0, 0), 1);
        Due.is("a read", x.count(5), 3);
    }

    private static void newTransactionBehindPower() {
        BlockVault x = Due.dark();
        x.power(-1);
        Due.is("nothing held", x.count(2), 0);
        Due.is("two", Due.change(x, 5, 2, 8), 2);
        Due.is("flush", x.flush(), 2);
        Due.is("the lost one", x.get(Due.block(2), 0), 0);
        Due.is("the new one", x.get(Due.block(5), 0), 8);
    }

    /** A commit of n blocks (by end() if it is a large one) behind an earlier one, cut at its k-th write. */
    private static void cutAtEachWrite(int n, int k, boolean byEnd) {
        String at = "n " + n + ", cut at " + k + ": ";
        BlockVault x = new BlockVault(80);
        Due.change(x, 0, 20, 1);
        x.flush();
        int before = x.count(4);
        Due.change(x, 0, Math.min(n, 20), 2);
        x.cut(k);
        int answer = byEnd ? Due.change(x, 20, n - 20, 2) : x.flush();
        int all = 2 * n + 2;
        if (k == all) {
            Due.is(at + "not cut", answer, byEnd ? 0 : n);
            Due.is(at + "on", x.count(0), 1);
            Due.is(at + "writes", x.count(4), before + all);
            return;
        }
        boolean counts = k >= n + 1;
        Due.is(at + "cut", answer, BlockVault.NONE);
        Due.is(at + "off", x.count(0), 0);
        Due.is(at + "writes", x.count(4), before + k);
        Due.is(at + "commits", x.count(6), counts ? 2 : 1);
        Due.is(at + "held", x.count(2), 0);
        Due.is(at + "power", x.power(-1), counts ? n : 0);
        Due.is(at + "writes behind it", x.count(4), before + k + (counts ? n + 1 : 0));
        Due.is(at + "commits behind it", x.count(6), counts ? 2 : 1);
        for (int i = 0; i < Due.USABLE; i++) {
            int first = i < 20 ? 1 : 0;
            Due.is(at + "byte of " + i, x.get(Due.block(i), 0), counts && i < n ? 2 : first);
        }
    }

    /** The power goes at each write of bringing back, one time behind the other. */
    private static void cutWhileBroughtBack(int n) {
        String at = "n " + n + ": ";
        BlockVault x = new BlockVault(80);
        Due.change(x, 3, n, 6);
        x.cut(n + 1);
        x.flush();
        int writes = n + 1;
        for (int k = 0; k <= n; k++) {
            Due.is(at + "goes again at " + k, x.power(k), BlockVault.NONE);
            writes += k;
            Due.is(at + "off", x.count(0), 0);
            Due.is(at + "writes", x.count(4), writes);
            Due.is(at + "still counts", x.count(6), 1);
        }
        Due.is(at + "brought back", x.power(n + 1), n);
        for (int i = 0; i < n; i++) {
            Due.is(at + "byte", x.get(Due.block(3 + i), 0), 6);
        }
        Due.is(at + "byte left of it", x.get(Due.block(2), 0), 0);
        Due.is(at + "byte right of it", x.get(Due.block(3 + n), 0), 0);
        Due.change(x, 0, 1, 1);
        Due.is(at + "goes at the next write", x.flush(), BlockVault.NONE);
        Due.is(at + "that commit was ended", x.power(-1), 0);
    }
}
