import java.util.Arrays;

/**
 * Blocks on a disk whose power may go at any write, behind a cache of rows and a log.
 *
 * What outlives the power is the disk alone; what is changed in steps stays in the cache until a
 * commit copies it to the log, makes the log count by one write, and brings it home from there.
 */
public final class BlockVault {
    public static final int NONE = -1;

    private static final int BLOCK_BYTES = 1024;
    private static final int FEWEST_BLOCKS = 40;
    private static final int MOST_BLOCKS = 80;
    private static final int LOG_HEAD = 2;
    private static final int LOG_LAST = 32;
    private static final int LOG_SLOTS = LOG_LAST - LOG_HEAD;
    private static final int STEP_LIMIT = 10;
    private static final int HELD_WITHOUT_COMMIT = 20;
    private static final int CACHE_ROWS = 34;

    private final int blocks;
    private final Disk disk;
    private final Cache cache;
    private final Log log;
    private boolean stepOpen;

    public BlockVault(int blocks) {
        this.blocks = Math.max(FEWEST_BLOCKS, Math.min(MOST_BLOCKS, blocks));
        this.disk = new Disk();
        this.cache = new Cache();
        this.log = new Log();
        this.stepOpen = false;
    }

    public boolean begin() {
        if (!disk.isOn() || stepOpen) {
            return false;
        }
        stepOpen = true;
        return true;
    }

    public int end() {
        if (!disk.isOn() || !stepOpen) {
            return NONE;
        }
        stepOpen = false;
        cache.closeStep();
        int holding = cache.heldRows();
        if (holding <= HELD_WITHOUT_COMMIT) {
            return holding;
        }
        return commit() ? 0 : NONE;
    }

    public int flush() {
        if (!disk.isOn() || stepOpen) {
            return NONE;
        }
        int holding = cache.heldRows();
        if (holding == 0) {
            return 0;
        }
        return commit() ? holding : NONE;
    }

    public int get(int b, int k) {
        if (!disk.isOn() || !isBlock(b) || k < 0 || k >= BLOCK_BYTES) {
            return NONE;
        }
        return cache.lookAt(b, disk).page.byteAt(k);
    }

    public boolean fill(int b, int k, int n, int v) {
        if (!disk.isOn() || !stepOpen || !isBlock(b) || !isRun(k, n) || !stepTakes(b)) {
            return false;
        }
        Row row = cache.lookAt(b, disk);
        row.held = true;
        row.inStep = true;
        row.page.putRun(k, n, v);
        return true;
    }

    public boolean cut(int k) {
        if (!disk.isOn()) {
            return false;
        }
        disk.goAfter(k);
        return true;
    }

    public int power(int k) {
        if (disk.isOn()) {
            return NONE;
        }
        disk.comeBack();
        // Set before the log is brought home, for its writes are among those that k counts.
        disk.goAfter(k);
        return log.bringHome(disk);
    }

    public int count(int what) {
        switch (what) {
            case 0:
                return disk.isOn() ? 1 : 0;
            case 1:
                return blocks;
            case 2:
                return cache.heldRows();
            case 3:
                return stepOpen ? cache.stepRows() : NONE;
            case 4:
                return disk.writesMade();
            case 5:
                return cache.readsMade();
            case 6:
                return log.commitsCounted();
            default:
                return NONE;
        }
    }

    public boolean held(int b) {
        if (!disk.isOn() || !isBlock(b)) {
            return false;
        }
        Row row = cache.rowOf(b);
        return row != null && row.held;
    }

    public boolean cached(int b) {
        return disk.isOn() && isBlock(b) && cache.rowOf(b) != null;
    }

    private boolean isBlock(int b) {
        boolean ofTheLog = b >= LOG_HEAD && b <= LOG_LAST;
        return b >= 0 && b < blocks && !ofTheLog;
    }

    private static boolean isRun(int k, int n) {
        // Said by subtraction, for k + n may wrap around.
        return n >= 1 && n <= BLOCK_BYTES && k >= 0 && k <= BLOCK_BYTES - n;
    }

    private boolean stepTakes(int b) {
        Row row = cache.rowOf(b);
        boolean alreadyIn = row != null && row.inStep;
        return alreadyIn || cache.stepRows() < STEP_LIMIT;
    }

    /** False if the power went: then all that was not on the disk is lost. */
    private boolean commit() {
        if (log.bringOut(cache, disk)) {
            cache.releaseHeld();
            return true;
        }
        cache.makeEmpty();
        return false;
    }

    /** The bytes of one block, wherever they stand. */
    private static final class Page {
        // Null while all bytes are 0: most pages of an object are never written, and need no room.
        private byte[] bytes;

        int byteAt(int k) {
            if (bytes == null || k < 0 || k >= bytes.length) {
                return 0;
            }
            return bytes[k] & 0xFF;
        }

        void putRun(int k, int n, int v) {
            if (!isRun(k, n)) {
                return;
            }
            if (bytes == null) {
                bytes = new byte[BLOCK_BYTES];
            }
            for (int i = 0; i < n; i++) {
                bytes[k + i] = (byte) (v + i);
            }
        }

        void copyFrom(Page other) {
            if (other.bytes == null) {
                makeZero();
                return;
            }
            if (bytes == null) {
                bytes = new byte[BLOCK_BYTES];
            }
            System.arraycopy(other.bytes, 0, bytes, 0, BLOCK_BYTES);
        }

        void makeZero() {
            // The array is kept, so that a page makes room once in its life.
            if (bytes != null) {
                Arrays.fill(bytes, (byte) 0);
            }
        }
    }

    /** What outlives the power, and the power itself, which goes at a write. */
    private static final class Disk {
        private final Page[] pages;
        private boolean on;
        // Below 0 the power does not go.
        private int writesLeft;
        private int writes;

        Disk() {
            pages = new Page[MOST_BLOCKS];
            for (int b = 0; b < pages.length; b++) {
                pages[b] = new Page();
            }
            on = true;
            writesLeft = NONE;
            writes = 0;
        }

        boolean isOn() {
            return on;
        }

        void comeBack() {
            on = true;
        }

        void goAfter(int k) {
            writesLeft = k;
        }

        int writesMade() {
            return writes;
        }

        void read(int b, Page into) {
            if (b >= 0 && b < pages.length) {
                into.copyFrom(pages[b]);
            }
        }

        /** False if the write was not made, since the power went at it. */
        boolean write(int b, Page from) {
            if (!on || b < 0 || b >= pages.length) {
                return false;
            }
            if (writesLeft == 0) {
                on = false;
                return false;
            }
            if (writesLeft > 0) {
                writesLeft--;
            }
            writes++;
            pages[b].copyFrom(from);
            return true;
        }
    }

    /** A place in the cache. */
    private static final class Row {
        private final Page page;
        private int block;
        private int lastUse;
        private boolean held;
        private boolean inStep;

        Row() {
            page = new Page();
            block = NONE;
            lastUse = 0;
            held = false;
            inStep = false;
        }

        void makeEmpty() {
            block = NONE;
            lastUse = 0;
            held = false;
            inStep = false;
        }

        boolean givesWayBefore(Row other) {
            if (held != other.held) {
                return other.held;
            }
            return lastUse < other.lastUse;
        }
    }

    /** Held blocks never leave it: a transaction has at most 30 of them, and there are more rows. */
    private static final class Cache {
        private final Row[] rows;
        private int uses;
        private int reads;

        Cache() {
            rows = new Row[CACHE_ROWS];
            for (int i = 0; i < rows.length; i++) {
                rows[i] = new Row();
            }
            uses = 0;
            reads = 0;
        }

        /** Null if the block is in none. */
        Row rowOf(int b) {
            for (Row row : rows) {
                if (row.block == b) {
                    return row;
                }
            }
            return null;
        }

        Row lookAt(int b, Disk disk) {
            Row row = rowOf(b);
            if (row == null) {
                row = rowToGive();
                row.block = b;
                disk.read(b, row.page);
                reads++;
            }
            uses++;
            row.lastUse = uses;
            return row;
        }

        // An empty row was last used at 0, so it is given before any that is taken.
        private Row rowToGive() {
            Row first = rows[0];
            for (Row row : rows) {
                if (row.givesWayBefore(first)) {
                    first = row;
                }
            }
            return first;
        }

        int readsMade() {
            return reads;
        }

        int heldRows() {
            int n = 0;
            for (Row row : rows) {
                if (row.held) {
                    n++;
                }
            }
            return n;
        }

        int stepRows() {
            int n = 0;
            for (Row row : rows) {
                if (row.inStep) {
                    n++;
                }
            }
            return n;
        }

        void closeStep() {
            for (Row row : rows) {
                row.inStep = false;
            }
        }

        void releaseHeld() {
            for (Row row : rows) {
                row.held = false;
            }
        }

        void makeEmpty() {
            for (Row row : rows) {
                row.makeEmpty();
            }
        }
    }

    /**
     * The log stands on the disk's own blocks. Byte 0 of its head says how many blocks the commit
     * that counts has (0: it was ended), byte i which block the i-th slot behind the head is for.
     */
    private static final class Log {
        private final Page head;
        private final Page carried;
        private int commits;

        Log() {
            head = new Page();
            carried = new Page();
            commits = 0;
        }

        int commitsCounted() {
            return commits;
        }

        /** False if the power went. */
        boolean bringOut(Cache cache, Disk disk) {
            if (!copyHeld(cache, disk) || !disk.write(LOG_HEAD, head)) {
                return false;
            }
            commits++;
            return bringHome(disk) != NONE;
        }

        private boolean copyHeld(Cache cache, Disk disk) {
            int n = 0;
            for (Row row : cache.rows) {
                if (row.held && n < LOG_SLOTS) {
                    n++;
                    head.putRun(n, 1, row.block);
                    if (!disk.write(LOG_HEAD + n, row.page)) {
                        return false;
                    }
                }
            }
            head.putRun(0, 1, n);
            return true;
        }

        /** How many blocks the disk's log had to bring home; NONE if the power went. */
        int bringHome(Disk disk) {
            disk.read(LOG_HEAD, head);
            int n = Math.min(head.byteAt(0), LOG_SLOTS);
            if (n == 0) {
                return 0;
            }
            for (int i = 1; i <= n; i++) {
                disk.read(LOG_HEAD + i, carried);
                if (!disk.write(head.byteAt(i), carried)) {
                    return NONE;
                }
            }
            head.putRun(0, 1, 0);
            return disk.write(LOG_HEAD, head) ? n : NONE;
        }
    }
}
