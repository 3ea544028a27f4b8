/** The first section: a run of 512 calls holds to its end. */
public final class LastCallTest {
    private static final int CALLS = 512;

    public static void main(String[] args) {
        asManyLooks();
        asManySteps();
        asManyFills();
        asManySmallCommits();
        asManyLargeCommits();
        asManyCuts();
        asManyReturns();
        asManyRefusals();
        Due.finish();
    }

    private static void sentence() {
        Due.says("An object is used for at most 512 calls after it has been made");
    }

    private static void asManyLooks() {
        sentence();
        BlockVault x = new BlockVault(80);
        for (int call = 1; call < CALLS; call++) {
            Due.is("get, call " + call, x.get(Due.block(call % Due.USABLE), call), 0);
        }
        Due.is("reads, call 512", x.count(5), CALLS - 1);
    }

    private static void asManySteps() {
        sentence();
        BlockVault x = new BlockVault(80);
        for (int call = 1; call <= CALLS; call += 2) {
            Due.yes("begin, call " + call, x.begin());
            Due.is("end, call " + (call + 1), x.end(), 0);
        }
    }

    private static void asManyFills() {
        sentence();
        BlockVault x = new BlockVault(80);
        x.begin();
        for (int call = 2; call < CALLS; call++) {
            Due.yes("fill, call " + call, x.fill(Due.block(call % 10), 0, 1024, call));
        }
        Due.is("end, call 512", x.end(), 10);
    }

    private static void asManySmallCommits() {
        sentence();
        BlockVault x = new BlockVault(80);
        for (int call = 1; call <= CALLS - 4; call += 4) {
            Due.yes("begin, call " + call, x.begin());
            Due.yes("fill", x.fill(Due.block(call % Due.USABLE), call, 1, call));
            Due.is("end", x.end(), 1);
            Due.is("flush", x.flush(), 1);
        }
        Due.is("writes, call 509", x.count(4), 127 * 4);
        Due.is("commits, call 510", x.count(6), 127);
        Due.is("the first byte, call 511", x.get(Due.block(1), 1), 1);
        Due.is("the last byte, call 512", x.get(Due.block(505 % Due.USABLE), 505), 505 & 255);
    }

    private static void asManyLargeCommits() {
        sentence();
        BlockVault x = new BlockVault(80);
        int calls = 0;
        for (int round = 1; round <= 14; round++) {
            for (int step = 0; step < 3; step++) {
                x.begin();
                for (int i = 0; i < 10; i++) {
                    x.fill(Due.block((round + step * 10 + i) % Due.USABLE), 0, 1024, round);
                }
                Due.is("end in round " + round, x.end(), step < 2 ? step * 10 + 10 : 0);
                calls += 12;
            }
        }
        Due.is("calls that were made", calls, 504);
        Due.is("writes, call 505", x.count(4), 14 * 62);
        Due.is("commits, call 506", x.count(6), 14);
        Due.is("held, call 507", x.count(2), 0);
        Due.none("step, call 508", x.count(3));
        Due.is("of the first round, call 509", x.get(Due.block(1), 1023), (1 + 1023) & 255);
        Due.is("of the last round, call 510", x.get(Due.block(14), 0), 14);
        Due.is("of the last round, call 511", x.get(Due.block(43), 1023), (14 + 1023) & 255);
        Due.is("never changed, call 512", x.get(Due.block(0), 0), 0);
    }

    private static void asManyCuts() {
        sentence();
        BlockVault x = new BlockVault(80);
        x.begin();
        x.fill(40, 0, 1, 1);
        x.end();
        for (int call = 4; call < CALLS; call++) {
            Due.yes("cut, call " + call, x.cut(CALLS - 1 - call));
        }
        Due.none("flush, call 512", x.flush());
    }

    private static void asManyReturns() {
        sentence();
        BlockVault x = new BlockVault(80);
        x.begin();
        x.fill(40, 0, 1, 1);
        x.fill(41, 0, 1, 2);
        x.end();
        x.cut(3);
        Due.none("flush, call 6", x.flush());
        for (int call = 7; call <= CALLS - 4; call++) {
            Due.none("power, call " + call, x.power(call % 3));
        }
        Due.is("power, call 509", x.power(3), 2);
        Due.is("get, call 510", x.get(40, 0), 1);
        Due.is("get, call 511", x.get(41, 0), 2);
        Due.is("writes, call 512", x.count(4), 3 + 3 + returnsWrites());
    }

    private static int returnsWrites() {
        int writes = 0;
        for (int call = 7; call <= CALLS - 4; call++) {
            writes += call % 3;
        }
        return writes;
    }

    private static void asManyRefusals() {
        sentence();
        BlockVault x = new BlockVault(80);
        for (int call = 1; call <= CALLS - 2; call++) {
            switch (call % 6) {
                case 0 -> Due.none("end", x.end());
                case 1 -> Due.no("fill", x.fill(40, 0, 1, 1));
                case 2 -> Due.none("get", x.get(2, 0));
                case 3 -> Due.none("power", x.power(0));
                case 4 -> Due.none("count", x.count(7));
                default -> Due.no("held", x.held(-1));
            }
        }
        Due.yes("begin, call 511", x.begin());
        Due.yes("fill, call 512", x.fill(40, 0, 1, 1));
    }
}
