import java.util.ArrayDeque;
import java.util.Deque;
import java.util.Random;
import java.util.function.IntSupplier;

/** Runs of 512 calls that a seed tells, each answer compared with the model's. */
public final class RandomTest {
    private static final int CALLS = 512;
    private static final int RUNS = 4000;
    private static final int OFF = -1001;
    private static final int FAILS = -1002;
    private static final int OUTSIDE = -1003;

    /** Of a hundred calls; runs of the second kind make long directories, those of the third a full disk. */
    private static final int[] LOOKS = {40, 10, 10, 40};
    private static final int[] POWERS = {6, 1, 1, 2};

    /** Of a hundred changes; the rest of them are writes. */
    private static final int[] ENTERS = {30, 90, 4, 60};
    private static final int[] UNLINKS = {6, 2, 1, 6};
    private static final int[] TRUNCATES = {2, 1, 1, 2};

    private final Random random;
    private final int run;
    private final int kind;
    private final LogFs real = new LogFs();
    private final Model model = new Model();
    private final Deque<String> latest = new ArrayDeque<>();
    private boolean wrong = false;

    private RandomTest(int run) {
        this.run = run;
        this.kind = run % 4;
        this.random = new Random(run);
    }

    public static void main(String[] args) {
        for (int run = 0; run < RUNS; run++) {
            RandomTest test = new RandomTest(run);
            test.makeFiles();
            for (int call = 10; call < CALLS && !test.wrong; call++) {
                test.oneCall();
            }
        }
        Check.end();
    }

    private void oneCall() {
        if (model.count(5) == 1 && random.nextInt(3) == 0) {
            compare("mount()", real::mount, model::mount);
            return;
        }
        int pick = random.nextInt(100);
        if (pick < LOOKS[kind]) {
            look();
        } else if (pick < 100 - POWERS[kind]) {
            change();
        } else {
            power();
        }
    }

    private void change() {
        int pick = random.nextInt(100) - ENTERS[kind];
        if (pick < 0) {
            enter();
        } else if (pick < UNLINKS[kind]) {
            int directory = inode();
            long name = name();
            compare("unlink(" + directory + ", " + name + ")", () -> real.unlink(directory, name) ? 1 : 0,
                    () -> model.unlink(directory, name));
        } else if (pick < UNLINKS[kind] + TRUNCATES[kind]) {
            int inode = inode();
            compare("truncate(" + inode + ")", () -> real.truncate(inode) ? 1 : 0, () -> model.truncate(inode));
        } else {
            put();
        }
    }

    private void makeFiles() {
        for (int i = 0; i < (kind == 2 ? 10 : 1); i++) {
            long name = Check.name("n" + i);
            compare("make(0, " + name + ", false)", () -> real.make(0, name, false), () -> model.make(0, name, false));
        }
    }

    private void enter() {
        int directory = random.nextInt(3) > 0 ? 0 : inode();
        long name = name();
        if (kind == 1 ? random.nextInt(40) > 0 : random.nextInt(4) == 0) {
            int inode = kind == 1 && random.nextInt(8) > 0 ? 1 : inode();
            compare("link(" + directory + ", " + name + ", " + inode + ")",
                    () -> real.link(directory, name, inode) ? 1 : 0, () -> model.link(directory, name, inode));
            return;
        }
        boolean isDirectory = random.nextInt(4) == 0;
        compare("make(" + directory + ", " + name + ", " + isDirectory + ")",
                () -> real.make(directory, name, isDirectory), () -> model.make(directory, name, isDirectory));
    }

    private void put() {
        int inode = inode();
        int at = at(inode);
        if (random.nextInt(4) == 0) {
            long bytes = random.nextLong();
            int n = random.nextInt(20) == 0 ? random.nextInt(14) - 2 : 1 + random.nextInt(8);
            compare("write(" + inode + ", " + at + ", " + bytes + ", " + n + ")",
                    () -> real.write(inode, at, bytes, n), () -> model.write(inode, at, bytes, n));
            return;
        }
        int value = random.nextInt(20) == 0 ? random.nextInt(300) - 20 : random.nextInt(256);
        int n = random.nextInt(20) == 0 ? random.nextInt(70) - 2 : random.nextInt(3) > 0 ? 64 : 1 + random.nextInt(64);
        compare("fill(" + inode + ", " + at + ", " + value + ", " + n + ")",
                () -> real.fill(inode, at, value, n), () -> model.fill(inode, at, value, n));
    }

    private void power() {
        int pick = random.nextInt(10);
        if (pick < 5) {
            compare("sync()", real::sync, model::sync);
        } else if (pick < 9) {
            int n = random.nextInt(40) - 1;
            compare("failAfter(" + n + ")", () -> real.failAfter(n) ? 1 : 0, () -> model.failAfter(n));
        } else {
            compare("mount()", real::mount, model::mount);
        }
    }

    private void look() {
        int pick = random.nextInt(6);
        int block = block();
        int k = random.nextInt(40) == 0 ? random.nextInt(80) - 5 : random.nextInt(random.nextBoolean() ? 64 : 8);
        int inode = inode();
        if (pick == 0) {
            compare("disk(" + block + ", " + k + ")", () -> real.disk(block, k), () -> model.disk(block, k));
        } else if (pick == 1) {
            compare("memory(" + block + ", " + k + ")", () -> real.memory(block, k), () -> model.memory(block, k));
        } else if (pick == 2) {
            int what = random.nextInt(26) - 1;
            compare("count(" + what + ")", () -> real.count(what), () -> model.count(what));
        } else if (pick == 3) {
            int what = random.nextInt(6);
            compare("look(" + inode + ", " + what + ")", () -> real.look(inode, what), () -> model.look(inode, what));
        } else if (pick == 4) {
            int at = at(inode);
            compare("read(" + inode + ", " + at + ")", () -> real.read(inode, at), () -> model.read(inode, at));
        } else {
            long name = name();
            compare("find(" + inode + ", " + name + ")", () -> real.find(inode, name), () -> model.find(inode, name));
        }
    }

    private int inode() {
        int pick = random.nextInt(20);
        return pick == 0 ? random.nextInt(50) - 5 : pick < 4 ? random.nextInt(32) : random.nextInt(kind == 2 ? 11 : 5);
    }

    private int block() {
        int pick = random.nextInt(20);
        return pick == 0 ? random.nextInt(140) - 5 : pick < 8 ? random.nextInt(128)
                : pick < 12 ? 17 + random.nextInt(4) : pick < 14 ? 25 : 1 + random.nextInt(40);
    }

    /** Mostly the end of a content or near it, so that contents grow. */
    private int at(int inode) {
        int size = inode < 0 || inode > 31 || model.count(5) == 1 ? 0 : model.look(inode, 2);
        int pick = random.nextInt(10);
        return pick == 0 ? random.nextInt(1010) - 5 : pick < 3 ? size - random.nextInt(70)
                : pick < 5 ? random.nextInt(size + 1) : size;
    }

    private long name() {
        int pick = random.nextInt(40);
        if (pick == 0) {
            return random.nextLong();
        }
        if (pick == 1) {
            return Check.name("n" + random.nextInt(10)) | 1L << random.nextInt(64);
        }
        return Check.name("n" + random.nextInt(kind == 1 ? 1000 : 40));
    }

    private void compare(String call, IntSupplier ofReal, IntSupplier ofModel) {
        int due = answer(ofModel);
        int got = answer(ofReal);
        latest.addLast(call + " = " + due);
        if (latest.size() > 20) {
            latest.removeFirst();
        }
        if (got != due) {
            wrong = true;
            Check.tell("run " + run + ": " + call + " answered " + got + ", due is " + due + "; the latest calls: "
                    + latest);
        }
    }

    /** An exception of another class, such as one that an array throws by itself, ends the test. */
    private static int answer(IntSupplier call) {
        try {
            return call.getAsInt();
        } catch (RuntimeException e) {
            Class<?> kind = e.getClass();
            if (kind == IllegalStateException.class || kind == Model.PowerIsOff.class) {
                return OFF;
            }
            if (kind == UnsupportedOperationException.class || kind == Model.PowerFails.class) {
                return FAILS;
            }
            if (kind == IndexOutOfBoundsException.class || kind == Model.Outside.class) {
                return OUTSIDE;
            }
            throw e;
        }
    }
}
