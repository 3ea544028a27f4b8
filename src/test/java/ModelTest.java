import java.util.ArrayList;
import java.util.Arrays;
import java.util.List;
import java.util.Random;
import java.util.Set;
import java.util.TreeSet;

/**
 * All promises: runs of 512 calls by chance (the same ones each time), each answer against that of a
 * plain model which has no log: it keeps the committed bytes and reckons the writes as numbers.
 */
public final class ModelTest {
    private static final int RUNS = 3000;
    private static final int CALLS = 512;

    public static void main(String[] args) {
        for (int run = 0; run < RUNS; run++) {
            new Run(run).play();
        }
        Due.finish();
    }

    private static final class Model {
        final int n;
        byte[][] now = new byte[80][1024];
        byte[][] committed = new byte[80][1024];
        final List<Integer> cache = new ArrayList<>();
        final Set<Integer> held = new TreeSet<>();
        final Set<Integer> step = new TreeSet<>();
        boolean open = false;
        boolean on = true;
        long left = Long.MAX_VALUE;
        int unended = 0;
        int writes = 0;
        int reads = 0;
        int commits = 0;

        Model(int blocks) {
            n = blocks < 40 ? 40 : blocks > 80 ? 80 : blocks;
        }

        boolean block(int b) {
            return b == 0 || b == 1 || b > 32 && b < n;
        }

        void touch(int b) {
            if (!cache.remove((Integer) b)) {
                reads++;
                if (cache.size() == 34) {
                    int i = 0;
                    while (held.contains(cache.get(i))) {
                        i++;
                    }
                    cache.remove(i);
                }
            }
            cache.add(b);
        }

        int write(int wanted) {
            int made = (int) Math.min(wanted, left);
            left -= made;
            writes += made;
            return made;
        }

        void goOff() {
            on = false;
            open = false;
            held.clear();
            step.clear();
            cache.clear();
            now = copy(committed);
        }

        boolean commit() {
            int size = held.size();
            int made = write(2 * size + 2);
            if (made > size) {
                committed = copy(now);
                commits++;
                unended = made == 2 * size + 2 ? 0 : size;
            }
            if (made < 2 * size + 2) {
                goOff();
                return false;
            }
            held.clear();
            return true;
        }

        boolean begin() {
            boolean may = on && !open;
            open |= may;
            return may;
        }

        int end() {
            if (!on || !open) {
                return -1;
            }
            open = false;
            step.clear();
            return held.size() <= 20 ? held.size() : commit() ? 0 : -1;
        }

        int flush() {
            if (!on || open) {
                return -1;
            }
            int size = held.size();
            return size == 0 || commit() ? size : -1;
        }

        int get(int b, int k) {
            if (!on || !block(b) || k < 0 || k > 1023) {
                return -1;
            }
            touch(b);
            return Byte.toUnsignedInt(now[b][k]);
        }

        boolean fill(int b, int k, int many, int v) {
            if (!on || !open || !block(b) || many < 1 || many > 1024 || k < 0 || (long) k + many > 1024) {
                return false;
            }
            if (step.size() == 10 && !step.contains(b)) {
                return false;
            }
            touch(b);
            held.add(b);
            step.add(b);
            for (int i = 0; i < many; i++) {
                now[b][k + i] = (byte) (v + i);
            }
            return true;
        }

        boolean cut(int k) {
            if (on) {
                left = k < 0 ? Long.MAX_VALUE : k;
            }
            return on;
        }

        int power(int k) {
            if (on) {
                return -1;
            }
            on = true;
            cut(k);
            int size = unended;
            if (size > 0 && write(size + 1) < size + 1) {
                on = false;
                return -1;
            }
            unended = 0;
            return size;
        }

        int count(int what) {
            int[] all = {on ? 1 : 0, n, held.size(), open ? step.size() : -1, writes, reads, commits};
            return what < 0 || what > 6 ? -1 : all[what];
        }

        private static byte[][] copy(byte[][] from) {
            byte[][] to = new byte[from.length][];
            for (int i = 0; i < from.length; i++) {
                to[i] = Arrays.copyOf(from[i], from[i].length);
            }
            return to;
        }
    }

    private static final class Run {
        final String name;
        final Random random;
        final BlockVault x;
        final Model model;
        final int cutWeight;
        final int fewBlocks;

        Run(int number) {
            name = "run " + number + ", call ";
            random = new Random(number);
            int blocks = random.nextInt(4) == 0 ? 30 + random.nextInt(60) : 80;
            x = new BlockVault(blocks);
            model = new Model(blocks);
            cutWeight = random.nextInt(4) * 3;
            fewBlocks = random.nextBoolean() ? 49 : 3 + random.nextInt(46);
        }

        void play() {
            for (int call = 0; call < CALLS; call++) {
                playOne(name + call + ": ");
            }
        }

        int someBlock() {
            if (random.nextInt(30) == 0) {
                return random.nextInt(100) - 10;
            }
            return Due.block(random.nextInt(fewBlocks));
        }

        int someByte() {
            return random.nextInt(20) == 0 ? random.nextInt(1100) - 40 : random.nextInt(4) * 341;
        }

        int someCut() {
            return random.nextInt(5) == 0 ? -1 - random.nextInt(2) : random.nextInt(70);
        }

        void playOne(String at) {
            int kind = random.nextInt(100 + cutWeight);
            if (!model.on && random.nextInt(3) == 0) {
                int k = someCut();
                Due.is(at + "power(" + k + ")", x.power(k), model.power(k));
            } else if (kind < 10) {
                Due.is(at + "begin()", bit(x.begin()), bit(model.begin()));
            } else if (kind < 18) {
                Due.is(at + "end()", x.end(), model.end());
            } else if (kind < 19) {
                Due.is(at + "flush()", x.flush(), model.flush());
            } else if (kind < 40) {
                int b = someBlock();
                int k = someByte();
                Due.is(at + "get(" + b + ", " + k + ")", x.get(b, k), model.get(b, k));
            } else if (kind < 75) {
                playFill(at);
            } else if (kind < 85) {
                int what = random.nextInt(9) - 1;
                Due.is(at + "count(" + what + ")", x.count(what), model.count(what));
            } else if (kind < 91) {
                int b = someBlock();
                Due.is(at + "held(" + b + ")", bit(x.held(b)), bit(model.on && model.held.contains(b)));
            } else if (kind < 99) {
                int b = someBlock();
                Due.is(at + "cached(" + b + ")", bit(x.cached(b)), bit(model.on && model.cache.contains(b)));
            } else if (kind < 100) {
                int k = someCut();
                Due.is(at + "power(" + k + ")", x.power(k), model.power(k));
            } else {
                int k = someCut();
                Due.is(at + "cut(" + k + ")", bit(x.cut(k)), bit(model.cut(k)));
            }
        }

        void playFill(String at) {
            int b = someBlock();
            int k = someByte();
            int n = random.nextInt(8) == 0 ? random.nextInt(1100) - 20 : 1 + random.nextInt(4);
            int v = random.nextInt();
            Due.is(at + "fill(" + b + ", " + k + ", " + n + ", " + v + ")",
                bit(x.fill(b, k, n, v)), bit(model.fill(b, k, n, v)));
        }

        static int bit(boolean answer) {
            return answer ? 1 : 0;
        }
    }
}
