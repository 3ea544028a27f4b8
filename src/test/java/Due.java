/** What the tests share: every answer that is not the one that is due is printed, and counted. */
final class Due {
    /** The blocks of an object of 80 that are not the log's: 0, 1 and 33 .. 79. */
    static final int USABLE = 49;

    private static int wrong = 0;
    private static int asked = 0;

    private Due() {
    }

    static void is(String what, long got, long want) {
        asked++;
        if (got != want) {
            wrong++;
            System.out.println(what + " answered " + got + ", due is " + want);
        }
    }

    static void yes(String what, boolean got) {
        is(what, got ? 1 : 0, 1);
    }

    static void no(String what, boolean got) {
        is(what, got ? 1 : 0, 0);
    }

    static void finish() {
        System.out.println(wrong == 0 ? asked + " answers are as due" : wrong + " of " + asked + " answers are not as due");
        if (wrong != 0) {
            System.exit(1);
        }
    }

    /** The i-th block that is not the log's. */
    static int block(int i) {
        return i < 2 ? i : i + 31;
    }

    /** Changes the first byte of the usable blocks from .. from + n - 1 to v, in steps of at most ten. */
    static int change(BlockVault x, int from, int n, int v) {
        int answer = 0;
        for (int done = 0; done < n; done += 10) {
            yes("begin() in change", x.begin());
            for (int i = done; i < n && i < done + 10; i++) {
                yes("fill() in change", x.fill(block(from + i), 0, 1, v));
            }
            answer = x.end();
        }
        return answer;
    }

    /** An object of 80 blocks whose power went, with nothing in its log. */
    static BlockVault dark() {
        BlockVault x = new BlockVault(80);
        is("change() in dark", change(x, 2, 1, 5), 1);
        yes("cut(0) in dark", x.cut(0));
        is("flush() in dark", x.flush(), BlockVault.NONE);
        return x;
    }
}
