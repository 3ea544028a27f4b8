/** THE CACHE under "Terms". */
public final class CacheRowsTest {
    public static void main(String[] args) {
        emptyAtFirst();
        thirtyFourRows();
        theOldestGivesWay();
        onlyOneGivesWay();
        lookedAtAgain();
        changedAgain();
        whatIsInItIsNoRead();
        heldOnesStay();
        fourRowsAreLeft();
        heldOnesAndAge();
        releasedOnesGiveWay();
        heldOnesGrowYoungToo();
        aCommitIsNoLook();
        emptyWhenThePowerComesBack();
        fortyBlocks();
        Due.finish();
    }

    private static void emptyAtFirst() {
        Due.says("THE CACHE has 34 rows, empty at first");
        BlockVault x = new BlockVault(80);
        for (int b = 0; b < 80; b++) {
            Due.no("cached(" + b + ")", x.cached(b));
        }
    }

    private static void thirtyFourRows() {
        Due.says("THE CACHE has 34 rows");
        BlockVault x = new BlockVault(80);
        for (int i = 0; i < 34; i++) {
            Due.look(x, i, 1);
            Due.yes("the first", x.cached(Due.block(0)));
            Due.yes("the newest", x.cached(Due.block(i)));
            Due.no("the next", x.cached(Due.block(i + 1)));
        }
        for (int i = 0; i < 34; i++) {
            Due.yes("all 34", x.cached(Due.block(i)));
        }
        Due.look(x, 34, 1);
        Due.no("the 35th has the place of the first", x.cached(Due.block(0)));
    }

    private static void theOldestGivesWay() {
        Due.says("that was looked at or changed the longest time ago.");
        BlockVault x = new BlockVault(80);
        Due.look(x, 0, 34);
        for (int i = 34; i < Due.USABLE; i++) {
            Due.look(x, i, 1);
            Due.no("the oldest", x.cached(Due.block(i - 34)));
            Due.yes("the one behind it", x.cached(Due.block(i - 33)));
            Due.yes("the new one", x.cached(Due.block(i)));
        }
        Due.look(x, 0, 1);
        Due.no("and so on", x.cached(Due.block(15)));
        Due.yes("and so on", x.cached(Due.block(16)));
    }

    private static void onlyOneGivesWay() {
        Due.says("and with all rows taken it has the place of the one, of those that are not held");
        BlockVault x = new BlockVault(80);
        Due.look(x, 0, 34);
        for (int i = 34; i < 40; i++) {
            Due.look(x, i, 1);
            int inIt = 0;
            for (int j = 0; j < Due.USABLE; j++) {
                inIt += x.cached(Due.block(j)) ? 1 : 0;
            }
            Due.is("rows that are taken", inIt, 34);
        }
    }

    private static void lookedAtAgain() {
        Due.says("that was looked at or changed the longest time ago.");
        BlockVault x = new BlockVault(80);
        Due.look(x, 0, 34);
        for (int i = 33; i >= 0; i--) {
            x.get(Due.block(i), 1023);
        }
        for (int i = 0; i < 15; i++) {
            Due.look(x, 34 + i, 1);
            Due.no("the other way round", x.cached(Due.block(33 - i)));
            Due.yes("the other way round", x.cached(Due.block(32 - i)));
        }
    }

    private static void changedAgain() {
        Due.says("that was looked at or changed the longest time ago.");
        BlockVault x = new BlockVault(80);
        Due.look(x, 0, 34);
        Due.change(x, 0, 2, 1);
        x.flush();
        Due.look(x, 34, 32 - 17);
        Due.yes("changed behind the others", x.cached(Due.block(0)));
        Due.yes("changed behind the others", x.cached(Due.block(1)));
        for (int i = 2; i < 17; i++) {
            Due.no("older", x.cached(Due.block(i)));
        }
        Due.yes("next", x.cached(Due.block(17)));
    }

    private static void whatIsInItIsNoRead() {
        Due.says("if it was not, that is a READ");
        BlockVault x = new BlockVault(80);
        Due.look(x, 0, 34);
        Due.is("34 reads", x.count(5), 34);
        Due.look(x, 0, 34);
        Due.is("no more", x.count(5), 34);
        Due.look(x, 34, 1);
        Due.is("one more", x.count(5), 35);
        Due.look(x, 1, 33);
        Due.is("no more", x.count(5), 35);
        Due.look(x, 0, 1);
        Due.is("the one that gave way", x.count(5), 36);
        Due.change(x, 34, 1, 1);
        Due.is("the next that gave way", x.count(5), 37);
        Due.is("none of these writes", x.count(4), 0);
    }

    private static void heldOnesStay() {
        Due.says("it has the place of the one, of those that are not held");
        BlockVault x = new BlockVault(80);
        Due.change(x, 0, 20, 9);
        for (int round = 0; round < 3; round++) {
            Due.look(x, 20, 29);
        }
        for (int i = 0; i < 20; i++) {
            Due.yes("held, and the oldest", x.cached(Due.block(i)));
            Due.yes("held, and the oldest", x.held(Due.block(i)));
        }
        Due.is("reads", x.count(5), 20 + 3 * 29);
    }

    private static void fourRowsAreLeft() {
        Due.says("of those that are not held, that was looked at or changed the longest time ago.");
        BlockVault x = State.MOST_HELD.make();
        Due.is("thirty are held", x.count(2), 30);
        for (int i = 30; i < Due.USABLE; i++) {
            Due.look(x, i, 1);
            Due.yes("the new one", x.cached(Due.block(i)));
            Due.yes("the third before it", i < 33 || x.cached(Due.block(i - 3)));
            Due.no("the fourth before it", i >= 34 && x.cached(Due.block(i - 4)));
        }
        for (int i = 0; i < 30; i++) {
            Due.yes("a held one", x.cached(Due.block(i)));
            Due.is("its byte", x.get(Due.block(i), 0), i < 20 ? 1 : 2);
        }
        Due.is("reads", x.count(5), Due.USABLE);
        Due.is("end", x.end(), 0);
    }

    private static void heldOnesAndAge() {
        Due.says("of those that are not held, that was looked at or changed the longest time ago.");
        BlockVault x = new BlockVault(80);
        Due.look(x, 0, 34);
        x.begin();
        x.fill(Due.block(5), 0, 1, 1);
        Due.look(x, 0, 5);
        Due.look(x, 6, 28);
        Due.look(x, 34, 1);
        Due.yes("the oldest, but held", x.cached(Due.block(5)));
        Due.no("the oldest of the others", x.cached(Due.block(0)));
        x.fill(Due.block(35), 0, 1, 1);
        Due.yes("a changed one takes a place too", x.cached(Due.block(35)));
        Due.no("of the next of the others", x.cached(Due.block(1)));
    }

    private static void releasedOnesGiveWay() {
        Due.says("of those that are not held");
        BlockVault x = new BlockVault(80);
        Due.change(x, 0, 20, 3);
        Due.look(x, 20, 29);
        x.flush();
        for (int i = 0; i < 15; i++) {
            Due.look(x, 20 + i, 1);
            Due.no("behind the commit", x.cached(Due.block(i)));
            Due.yes("behind the commit", x.cached(Due.block(i + 1)));
        }
        for (int i = 0; i < 20; i++) {
            Due.is("from its home", x.get(Due.block(i), 0), 3);
        }
    }

    private static void heldOnesGrowYoungToo() {
        Due.says("that was looked at or changed the longest time ago.");
        BlockVault x = new BlockVault(80);
        Due.change(x, 0, 4, 1);
        Due.look(x, 4, 30);
        Due.look(x, 1, 1);
        Due.change(x, 2, 1, 2);
        x.flush();
        Due.look(x, 34, 2);
        Due.no("neither, while it was held", x.cached(Due.block(0)));
        Due.yes("looked at while it was held", x.cached(Due.block(1)));
        Due.yes("changed again while it was held", x.cached(Due.block(2)));
        Due.no("neither, while it was held", x.cached(Due.block(3)));
    }

    private static void aCommitIsNoLook() {
        Due.says("A block that is looked at or changed is in one of them from then on");
        BlockVault x = new BlockVault(80);
        Due.change(x, 0, 2, 4);
        Due.look(x, 2, 32);
        x.flush();
        Due.look(x, 34, 1);
        Due.no("changed first", x.cached(Due.block(0)));
        Due.yes("changed second", x.cached(Due.block(1)));
        Due.look(x, 35, 1);
        Due.no("changed second", x.cached(Due.block(1)));
    }

    private static void emptyWhenThePowerComesBack() {
        Due.says("empty at first and when the power comes back.");
        BlockVault x = new BlockVault(80);
        Due.look(x, 0, 34);
        Due.change(x, 40, 2, 1);
        x.cut(3);
        x.flush();
        x.power(-1);
        for (int i = 0; i < Due.USABLE; i++) {
            Due.no("cached", x.cached(Due.block(i)));
        }
        Due.look(x, 15, 34);
        Due.look(x, 0, 1);
        Due.no("the oldest since then", x.cached(Due.block(15)));
        Due.yes("the next", x.cached(Due.block(16)));
        Due.is("reads", x.count(5), 36 + 35);
    }

    private static void fortyBlocks() {
        Due.says("2 .. 32 are the log's, and none for all calls.");
        BlockVault x = new BlockVault(40);
        Due.look(x, 0, 9);
        Due.look(x, 0, 9);
        Due.is("nine blocks are there, and all are in it", x.count(5), 9);
        for (int i = 0; i < 9; i++) {
            Due.yes("cached", x.cached(Due.block(i)));
        }
    }
}
