import java.util.Arrays;
import java.util.function.Supplier;

/** All that the calls can tell of an object, asked of several made alike, for one may be asked only so often. */
final class State {
    private static final int CALLS = 512;
    private static final int BLOCK_BYTES = 64;
    private static final int BLOCKS = 128;
    private static final int COUNTS = 24;

    private interface ByteOf {
        int at(LogFs x, int block, int k);
    }

    private State() {
    }

    /** The bytes in memory from a block on; the source has used so many calls of each object that it gives. */
    static int[] memory(Supplier<LogFs> source, int used, int firstBlock) {
        return bytes(source, used, firstBlock, LogFs::memory);
    }

    static int[] disk(Supplier<LogFs> source, int used, int firstBlock) {
        return bytes(source, used, firstBlock, LogFs::disk);
    }

    private static int[] bytes(Supplier<LogFs> source, int used, int firstBlock, ByteOf byteOf) {
        int[] bytes = new int[(BLOCKS - firstBlock) * BLOCK_BYTES];
        LogFs x = null;
        for (int i = 0; i < bytes.length; i++) {
            if (i % (CALLS - used) == 0) {
                x = source.get();
            }
            bytes[i] = byteOf.at(x, firstBlock + i / BLOCK_BYTES, i % BLOCK_BYTES);
        }
        return bytes;
    }

    static int[] counts(LogFs x) {
        int[] counts = new int[COUNTS];
        for (int what = 0; what < COUNTS; what++) {
            counts[what] = x.count(what);
        }
        return counts;
    }

    static void same(String what, int firstBlock, int[] due, int[] got) {
        int i = Arrays.mismatch(due, got);
        if (i >= 0) {
            Check.tell(what + ": byte " + i % BLOCK_BYTES + " of block " + (firstBlock + i / BLOCK_BYTES) + " is "
                    + got[i] + ", due is " + due[i]);
        }
    }

    static void sameCounts(String what, int[] due, int[] got) {
        int i = Arrays.mismatch(due, got);
        if (i >= 0) {
            Check.tell(what + ": count(" + i + ") is " + got[i] + ", due is " + due[i]);
        }
    }
}
