import java.util.ArrayList;
import java.util.List;
import java.util.function.Function;
import java.util.function.Supplier;

/** "Calls that answer false or NONE change nothing": all bytes and counts stay, for each cause of a refusal. */
public final class RefusalTest {
    private static final long A = Check.name("a");

    /** More calls than a source below makes, and the one that is refused. */
    private static final int USED = 400;

    private static final class Refusal {
        private final String what;
        private final Function<LogFs, Object> call;

        Refusal(String what, Function<LogFs, Object> call) {
            this.what = what;
            this.call = call;
        }
    }

    public static void main(String[] args) {
        refuseAll("few files", () -> Disks.withPending(0), ordinary());
        refuseAll("a full disk", () -> Disks.withFreeBlocks(0), onFullDisk());
        refuseAll("one free block", () -> Disks.withFreeBlocks(1), withOneFreeBlock());
        refuseAll("a long root and one free block", () -> Disks.withLongRootAndFreeBlocks(1), withLongRoot());
        refuseAll("a full directory", RefusalTest::fullDirectory, withFullDirectory());
        refuseAll("no free inode", RefusalTest::noFreeInode, withoutInodes());
        refuseAll("200 links", RefusalTest::mostLinks, withMostLinks());
        refuseAll("1000 bytes", RefusalTest::longFile, withLongFile());
        Check.end();
    }

    private static void refuseAll(String state, Supplier<LogFs> source, List<Refusal> refusals) {
        refuse(state, source, refusals);
        refuse(state + ", eleven pending", () -> withElevenPending(source.get()), refusals);
    }

    /** File 1 has eleven blocks and more in all states, so that a call that changes something has a commit ahead. */
    private static LogFs withElevenPending(LogFs x) {
        x.sync();
        for (int i = 0; i < 11; i++) {
            x.fill(1, 64 * i, 9, 1);
        }
        Check.is("pending", x.count(0), 11);
        return x;
    }

    private static void refuse(String state, Supplier<LogFs> source, List<Refusal> refusals) {
        int[] disk = State.disk(source, USED, 0);
        int[] memory = State.memory(source, USED, 0);
        int[] counts = State.counts(source.get());
        for (Refusal refusal : refusals) {
            String what = state + ": " + refusal.what;
            Supplier<LogFs> behind = () -> refused(what, source.get(), refusal);
            State.same(what + ": disk", 0, disk, State.disk(behind, USED, 0));
            State.same(what + ": memory", 0, memory, State.memory(behind, USED, 0));
            State.sameCounts(what, counts, State.counts(behind.get()));
        }
    }

    /** A commit for a call that is refused would fail here. */
    private static LogFs refused(String what, LogFs x, Refusal refusal) {
        x.failAfter(0);
        Object answer = refusal.call.apply(x);
        if (!answer.equals(LogFs.NONE) && !answer.equals(false)) {
            Check.tell(what + " answered " + answer);
        }
        return x;
    }

    private static List<Refusal> ordinary() {
        List<Refusal> all = new ArrayList<>();
        all.add(new Refusal("make in no directory", x -> x.make(9, A, false)));
        all.add(new Refusal("make in a file", x -> x.make(1, A, true)));
        all.add(new Refusal("make without a name", x -> x.make(0, 0L, false)));
        all.add(new Refusal("make with a taken name", x -> x.make(0, Check.name("h"), false)));
        all.add(new Refusal("link of no file", x -> x.link(0, A, 9)));
        all.add(new Refusal("link of a directory", x -> x.link(0, A, 3)));
        all.add(new Refusal("link in no directory", x -> x.link(9, A, 1)));
        all.add(new Refusal("link in a file", x -> x.link(2, A, 1)));
        all.add(new Refusal("link without a name", x -> x.link(3, -1L, 1)));
        all.add(new Refusal("link with a taken name", x -> x.link(0, Check.name("f"), 2)));
        all.add(new Refusal("unlink in no directory", x -> x.unlink(9, Check.name("f"))));
        all.add(new Refusal("unlink no entry", x -> x.unlink(3, Check.name("f"))));
        all.add(new Refusal("unlink without a name", x -> x.unlink(0, 0L)));
        all.add(new Refusal("write to no file", x -> x.write(4, 0, -1L, 1)));
        all.add(new Refusal("write to a directory", x -> x.write(0, 0, -1L, 1)));
        all.add(new Refusal("write of 0 bytes", x -> x.write(1, 0, -1L, 0)));
        all.add(new Refusal("write of 9 bytes", x -> x.write(1, 0, -1L, 9)));
        all.add(new Refusal("write at -1", x -> x.write(1, -1, -1L, 1)));
        all.add(new Refusal("write behind the size", x -> x.write(2, 2, -1L, 1)));
        all.add(new Refusal("fill of a directory", x -> x.fill(3, 0, 1, 1)));
        all.add(new Refusal("fill of 0 bytes", x -> x.fill(1, 0, 1, 0)));
        all.add(new Refusal("fill of 65 bytes", x -> x.fill(1, 0, 1, 65)));
        all.add(new Refusal("fill with -1", x -> x.fill(1, 0, -1, 1)));
        all.add(new Refusal("fill with 256", x -> x.fill(1, 0, 256, 1)));
        all.add(new Refusal("fill behind the size", x -> x.fill(2, 2, 1, 1)));
        all.add(new Refusal("fill to more than 1000 bytes", x -> x.fill(1, 960, 1, 41)));
        all.add(new Refusal("truncate a directory", x -> x.truncate(0)));
        all.add(new Refusal("truncate no file", x -> x.truncate(5)));
        all.add(new Refusal("find in no directory", x -> x.find(2, A)));
        all.add(new Refusal("find no entry", x -> x.find(0, A)));
        all.add(new Refusal("count of no such", x -> x.count(7)));
        return all;
    }

    private static List<Refusal> onFullDisk() {
        List<Refusal> all = new ArrayList<>();
        all.add(new Refusal("make", x -> x.make(0, A, false)));
        all.add(new Refusal("link", x -> x.link(0, A, 1)));
        all.add(new Refusal("write", x -> x.write(8, 0, -1L, 1)));
        all.add(new Refusal("write over the end of a block", x -> x.write(6, 639, -1L, 2)));
        all.add(new Refusal("fill", x -> x.fill(8, 0, 1, 64)));
        all.add(new Refusal("truncate a file of size 0", x -> x.truncate(8)));
        return all;
    }

    private static List<Refusal> withOneFreeBlock() {
        List<Refusal> all = new ArrayList<>();
        all.add(new Refusal("write", x -> x.write(6, 640, -1L, 1)));
        all.add(new Refusal("fill over the end of a block", x -> x.fill(6, 600, 1, 64)));
        return all;
    }

    private static List<Refusal> withLongRoot() {
        List<Refusal> all = new ArrayList<>();
        all.add(new Refusal("make", x -> x.make(0, A, true)));
        all.add(new Refusal("link", x -> x.link(0, A, 1)));
        return all;
    }

    private static LogFs fullDirectory() {
        LogFs x = Disks.withPending(0);
        Disks.addEntries(x, 3, 1, 125);
        return x;
    }

    private static List<Refusal> withFullDirectory() {
        List<Refusal> all = new ArrayList<>();
        all.add(new Refusal("make", x -> x.make(3, A, false)));
        all.add(new Refusal("link", x -> x.link(3, A, 1)));
        all.add(new Refusal("unlink a directory with entries", x -> x.unlink(0, Check.name("d"))));
        return all;
    }

    private static LogFs noFreeInode() {
        LogFs x = Disks.withPending(0);
        for (int i = 4; i <= 31; i++) {
            x.make(3, Check.name("n" + i), i % 2 == 0);
        }
        return x;
    }

    private static List<Refusal> withoutInodes() {
        List<Refusal> all = new ArrayList<>();
        all.add(new Refusal("make a file", x -> x.make(0, A, false)));
        all.add(new Refusal("make a directory", x -> x.make(3, A, true)));
        return all;
    }

    private static LogFs mostLinks() {
        LogFs x = Disks.withPending(0);
        Disks.addEntries(x, 0, 1, 100);
        Disks.addEntries(x, 3, 1, 99);
        return x;
    }

    private static List<Refusal> withMostLinks() {
        List<Refusal> all = new ArrayList<>();
        all.add(new Refusal("link", x -> x.link(3, A, 1)));
        return all;
    }

    private static LogFs longFile() {
        LogFs x = Disks.withPending(0);
        x.fill(1, 960, 1, 40);
        return x;
    }

    private static List<Refusal> withLongFile() {
        List<Refusal> all = new ArrayList<>();
        all.add(new Refusal("write at the end", x -> x.write(1, 1000, -1L, 1)));
        all.add(new Refusal("write over the end", x -> x.write(1, 993, -1L, 8)));
        all.add(new Refusal("fill at the end", x -> x.fill(1, 1000, 1, 1)));
        all.add(new Refusal("fill over the end", x -> x.fill(1, 937, 1, 64)));
        return all;
    }
}
