import java.util.HashMap;
import java.util.HashSet;
import java.util.Map;
import java.util.Random;
import java.util.Set;
import java.util.function.Supplier;

/**
 * The document's first sentence and 'Terms', asked of the bytes alone: whatever was called, and wherever the power
 * failed, inodes, map, contents and entries fit one another.
 */
public final class WholeTest {
    private static final int RUNS = 120;
    private static final int FILE = 1;
    private static final int DIRECTORY = 2;
    private static final int INODES = 32;

    private final String what;
    private final int[] bytes;
    private final Set<Integer> used = new HashSet<>();
    private final Map<Integer, Integer> entriesOf = new HashMap<>();

    private WholeTest(String what, int[] bytes) {
        this.what = what;
        this.bytes = bytes;
    }

    public static void main(String[] args) {
        for (int run = 0; run < RUNS; run++) {
            int seed = run;
            Supplier<LogFs> changed = () -> after(seed, false);
            Supplier<LogFs> committed = () -> committed(after(seed, false));
            Supplier<LogFs> failed = () -> mounted(after(seed, true));
            int calls = 2 * steps(seed) + 110;
            isWhole("run " + run + ", memory", State.memory(changed, calls, 0));
            isWhole("run " + run + ", disk", State.disk(committed, calls, 0));
            isWhole("run " + run + " with failures, memory", State.memory(failed, calls, 0));
            isWhole("run " + run + " with failures, disk", State.disk(failed, calls, 0));
        }
        Check.end();
    }

    private static int steps(int seed) {
        return 40 + seed;
    }

    private static LogFs committed(LogFs x) {
        x.sync();
        return x;
    }

    /** A failure that is still to come comes in one of these mounts, or has no write to come at. */
    private static LogFs mounted(LogFs x) {
        for (int tries = 0; tries < 3; tries++) {
            try {
                x.mount();
                return x;
            } catch (UnsupportedOperationException e) {
                Check.is("the power is off", x.count(5), 1);
            }
        }
        return x;
    }

    /**
     * Steps that a seed tells, of two calls at most; behind each failure of the power there is a mount, and there are
     * at most 20 failures. The fewer inodes are used, the longer their contents grow.
     */
    private static LogFs after(int seed, boolean withFailures) {
        Random random = new Random(seed);
        int inodes = 2 + 2 * (seed % 4);
        LogFs x = new LogFs();
        int failures = 0;
        for (int i = 0; i < steps(seed); i++) {
            if (withFailures && failures < 20 && random.nextInt(8) == 0) {
                x.failAfter(random.nextInt(30));
                failures++;
            }
            try {
                change(x, random, random.nextInt(inodes));
            } catch (UnsupportedOperationException e) {
                mounted(x);
            }
        }
        return x;
    }

    private static void change(LogFs x, Random random, int inode) {
        int pick = random.nextInt(60);
        long name = Check.name("n" + random.nextInt(60));
        int directory = random.nextInt(2) == 0 ? 0 : inode;
        if (pick < 12) {
            x.make(directory, name, random.nextInt(3) == 0);
        } else if (pick < 24) {
            x.link(directory, name, inode);
        } else if (pick < 28) {
            x.unlink(directory, name);
        } else if (pick < 32) {
            x.write(inode, random.nextInt(100), random.nextLong(), 8);
        } else if (pick < 56) {
            x.fill(inode, x.look(inode, 2), 1 + random.nextInt(255), 40 + random.nextInt(25));
        } else if (pick < 57) {
            x.truncate(inode);
        } else {
            x.sync();
        }
    }

    private static void isWhole(String what, int[] bytes) {
        WholeTest test = new WholeTest(what, bytes);
        test.nothingInBlockZeroAndTheHead();
        for (int inode = 0; inode < INODES; inode++) {
            test.inode(inode);
        }
        test.map();
        for (int inode = 0; inode < INODES; inode++) {
            if (test.type(inode) == DIRECTORY) {
                test.entries(inode);
            }
        }
        test.links();
    }

    /** A block that there is not is told by the inode that names it, and has nothing here. */
    private int at(int block, int k) {
        return block > 127 ? 0 : bytes[64 * block + k];
    }

    private int ofInode(int inode, int k) {
        return at(17 + inode / 4, inode % 4 * 16 + k);
    }

    private int type(int inode) {
        return ofInode(inode, 0);
    }

    private int size(int inode) {
        return 256 * ofInode(inode, 2) + ofInode(inode, 3);
    }

    private void due(String text, boolean holds) {
        Check.yes(what + ": " + text, holds);
    }

    private void nothingInBlockZeroAndTheHead() {
        for (int k = 0; k < 64; k++) {
            Check.is(what + ": block 0", at(0, k), 0);
            Check.is(what + ": the head", at(1, k), 0);
        }
    }

    private void inode(int inode) {
        String which = "inode " + inode;
        due(which + " has a type", type(inode) <= DIRECTORY);
        Check.is(what + ": byte 15 of " + which, ofInode(inode, 15), 0);
        if (type(inode) == 0) {
            for (int k = 0; k < 16; k++) {
                Check.is(what + ": byte " + k + " of free " + which, ofInode(inode, k), 0);
            }
            return;
        }
        due(which + " has at most 1000 bytes", size(inode) <= 1000);
        due(which + " has whole entries", type(inode) == FILE || size(inode) % 8 == 0);
        int blocks = (size(inode) + 63) / 64;
        for (int index = 0; index < 10; index++) {
            told(which + ", block " + index, ofInode(inode, 4 + index), index < blocks);
        }
        int indirect = ofInode(inode, 14);
        told(which + ", the indirect block", indirect, blocks > 10);
        for (int k = 0; blocks > 10 && k < 64; k++) {
            told(which + ", block " + (10 + k), at(indirect, k), 10 + k < blocks);
        }
    }

    private void told(String which, int block, boolean isDue) {
        if (!isDue) {
            Check.is(what + ": " + which, block, 0);
            return;
        }
        due(which + " is one for contents", block >= 26 && block <= 127);
        due(which + " has no other use", used.add(block));
    }

    private void map() {
        for (int bit = 0; bit < 64 * 8; bit++) {
            boolean isUsed = bit < 26 || used.contains(bit);
            Check.is(what + ": the map's bit of block " + bit, at(25, bit / 8) >> bit % 8 & 1, isUsed ? 1 : 0);
        }
    }

    private int ofContent(int inode, int at) {
        int index = at / 64;
        int block = index < 10 ? ofInode(inode, 4 + index) : at(ofInode(inode, 14), index - 10);
        return at(block, at % 64);
    }

    private void entries(int directory) {
        Set<String> names = new HashSet<>();
        for (int at = 0; at < size(directory); at += 8) {
            int first = ofContent(directory, at);
            String name = nameAt(directory, at, first == 0);
            if (first != 0) {
                due("an entry of " + directory + " has a name", !name.isEmpty());
                due("the name " + name + " is once in " + directory, names.add(name));
                due("inode " + (first - 1) + " is there", first <= INODES && type(first - 1) != 0);
                entriesOf.merge(first - 1, 1, Integer::sum);
            }
        }
    }

    private String nameAt(int directory, int at, boolean isFree) {
        StringBuilder name = new StringBuilder();
        boolean isBehind = isFree;
        for (int k = 1; k < 8; k++) {
            int character = ofContent(directory, at + k);
            isBehind = isBehind || character == 0;
            due("byte " + k + " of an entry", isBehind ? character == 0 : character >= 33 && character <= 126);
            name.append((char) character);
        }
        return name.toString().replace("\0", "");
    }

    private void links() {
        Check.is(what + ": the root is a directory", type(0), DIRECTORY);
        for (int inode = 0; inode < INODES; inode++) {
            int due = entriesOf.getOrDefault(inode, 0) + (inode == 0 ? 1 : 0);
            Check.is(what + ": links of inode " + inode, ofInode(inode, 1), due);
            due("inode " + inode + " has one link if it is a directory", type(inode) != DIRECTORY || due == 1);
            due("inode " + inode + " has at most 200 links", due <= 200);
        }
    }
}
