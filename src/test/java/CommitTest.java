import java.util.function.Supplier;

/** Terms, COMMIT: its writes, one by one, with nothing, with one block and with as many as the log has. */
public final class CommitTest {
    private static final int[] FIFTEEN = {27, 28, 29, 30, 31, 32, 33, 34, 35, 36, 42, 25, 44, 37, 17};

    public static void main(String[] args) {
        nothingIsWrittenIfNothingIsPending();
        oneBlockIsFourWrites();
        fifteenBlocksAreThirtyTwoWrites();
        theLogIsFilledInTheOrderOfThePendingOnes();
        eachWriteOfOneBlock();
        eachWriteOfFifteenBlocks();
        theHeadHasNothingInTheEnd();
        noneIsPendingThen();
        theLogIsWrittenFromBlockTwoOnEachTime();
        Check.end();
    }

    private static LogFs withOne() {
        return Disks.withPending(1);
    }

    /** Ten blocks of "f" are pending, then five that come with its sixteenth block. */
    private static LogFs withFifteen() {
        LogFs x = Disks.withPending(10);
        x.fill(1, 959, 200, 41);
        Check.pending("fifteen", x, FIFTEEN);
        return x;
    }

    /** "if n blocks are pending". */
    private static void nothingIsWrittenIfNothingIsPending() {
        LogFs x = Disks.withPending(0);
        int writes = x.count(3);
        int commits = x.count(4);
        x.failAfter(0);
        Check.is("sync", x.sync(), 0);
        Check.is("sync again", x.sync(), 0);
        Check.is("writes", x.count(3), writes);
        Check.is("commits", x.count(4), commits);
        Check.is("the power is on", x.count(5), 0);
    }

    /** "2 n + 2 WRITES of blocks." */
    private static void oneBlockIsFourWrites() {
        LogFs x = withOne();
        int writes = x.count(3);
        Check.is("sync", x.sync(), 4);
        Check.is("writes", x.count(3), writes + 4);
    }

    /** "2 n + 2 WRITES of blocks." */
    private static void fifteenBlocksAreThirtyTwoWrites() {
        LogFs x = withFifteen();
        int writes = x.count(3);
        x.failAfter(32);
        Check.is("sync", x.sync(), 32);
        Check.is("writes", x.count(3), writes + 32);
        Check.is("the power is on", x.count(5), 0);
    }

    /** "these are written to the log from block 2 on, in their order". */
    private static void theLogIsFilledInTheOrderOfThePendingOnes() {
        LogFs x = withFifteen();
        x.sync();
        for (int i = 0; i < 15; i++) {
            for (int k = 0; k < 8; k++) {
                Check.is("byte " + k + " of block " + (2 + i) + " of the log", x.disk(2 + i, k), x.disk(FIFTEEN[i], k));
            }
        }
        Check.disk("the first of the log", x, 2, 0, 9, 7);
        Check.disk("the last of the log", x, 16, 16, 1, 1, 3, 232);
    }

    private static void eachWriteOfOneBlock() {
        eachWrite(CommitTest::withOne, 27);
    }

    private static void eachWriteOfFifteenBlocks() {
        eachWrite(CommitTest::withFifteen, FIFTEEN);
    }

    /**
     * "these are written to the log from block 2 on, in their order; then the HEAD with n and their numbers; then each
     * to its own place; then the HEAD with nothing": after each number of writes the disk has just these.
     */
    private static void eachWrite(Supplier<LogFs> source, int... blocks) {
        int n = blocks.length;
        int used = 130;
        int[] before = State.disk(source, used, 0);
        int[] pending = State.memory(source, used, 0);
        for (int done = 0; done <= 2 * n + 2; done++) {
            int[] due = before.clone();
            for (int i = 0; i < Math.min(done, n); i++) {
                System.arraycopy(pending, 64 * blocks[i], due, 64 * (2 + i), 64);
            }
            for (int i = 0; i < Math.min(done - n - 1, n); i++) {
                System.arraycopy(pending, 64 * blocks[i], due, 64 * blocks[i], 64);
            }
            if (done > n && done < 2 * n + 2) {
                due[64] = n;
                System.arraycopy(blocks, 0, due, 65, n);
            }
            int writes = done;
            State.same(n + " blocks, after " + done + " writes", 0, due,
                    State.disk(() -> afterWrites(source.get(), writes, 2 * n + 2), used, 0));
        }
    }

    private static LogFs afterWrites(LogFs x, int writes, int all) {
        x.failAfter(writes);
        if (writes < all) {
            Check.powerFails("sync with " + writes + " writes", x::sync);
        } else {
            Check.is("sync", x.sync(), all);
        }
        return x;
    }

    /** "then the HEAD with nothing". */
    private static void theHeadHasNothingInTheEnd() {
        LogFs x = withFifteen();
        x.sync();
        Check.disk("the head", x, 1, 0, new int[64]);
    }

    /** "None is pending then." */
    private static void noneIsPendingThen() {
        LogFs x = withFifteen();
        x.sync();
        Check.pending("none", x);
        Check.is("sync", x.sync(), 0);
        for (int i = 0; i < 15; i++) {
            Check.is("the block in memory stays", x.memory(FIFTEEN[i], 0), x.disk(FIFTEEN[i], 0));
        }
        Check.is("read", x.read(1, 999), 200);
    }

    /** "these are written to the log from block 2 on", whatever the log had. */
    private static void theLogIsWrittenFromBlockTwoOnEachTime() {
        LogFs x = withFifteen();
        x.sync();
        x.fill(1, 64, 55, 1);
        Check.is("sync", x.sync(), 4);
        Check.disk("the first of the log", x, 2, 0, 55, 7);
        Check.disk("the second stays", x, 3, 0, 9, 7);
        x.fill(1, 0, 66, 1);
        x.fill(1, 128, 77, 1);
        Check.is("sync", x.sync(), 6);
        Check.disk("the first of the log", x, 2, 0, 66, 7);
        Check.disk("the second of the log", x, 3, 0, 77, 7);
        Check.disk("the third stays", x, 4, 0, 9, 7);
    }
}
