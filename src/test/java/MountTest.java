/** Promise 10; PowerTest has what a mount writes. */
public final class MountTest {
    public static void main(String[] args) {
        withThePowerOn();
        withoutALog();
        withALog();
        withALogOfOneBlock();
        failsInBetween();
        theLogInMemory();
        aFailureThatDidNotComeIsStillToCome();
        aFailureThatCameIsNotToComeAgain();
        aFailureThatIsToComeBehindTheMount();
        Check.end();
    }

    /** "(what is pending is gone, if it was on)". */
    private static void withThePowerOn() {
        LogFs x = Disks.withFile();
        x.fill(1, 0, 1, 64);
        x.make(0, Check.name("g"), false);
        Check.is("mount", x.mount(), 0);
        Check.pending("what was pending is gone", x);
        Check.is("size", x.look(1, 2), 0);
        Check.is("find", x.find(0, Check.name("g")), LogFs.NONE);
        Check.is("free blocks", x.count(1), 101);
        Check.is("free inodes", x.count(2), 30);
        Check.is("no writes", x.count(3), 8);
        Check.is("no commit", x.count(4), 1);
    }

    /** "MOUNT, with the power on": it is on behind it, and none came from the log. */
    private static void withoutALog() {
        LogFs x = Disks.withoutPower();
        Check.is("mount", x.mount(), 0);
        Check.is("the power is on", x.count(5), 0);
        Check.pending("none is pending", x);
        Check.is("size", x.look(1, 2), 0);
        Check.is("no writes", x.count(3), 8);
        Check.is("commits", x.count(4), 2);
    }

    private static LogFs withHeadOnly() {
        LogFs x = new LogFs();
        x.make(0, Check.name("f"), false);
        x.failAfter(4);
        Check.powerFails("sync", x::sync);
        return x;
    }

    /** "how many blocks came from the log." */
    private static void withALog() {
        LogFs x = withHeadOnly();
        Check.is("mount", x.mount(), 3);
        Check.is("find", x.find(0, Check.name("f")), 1);
        Check.is("writes", x.count(3), 8);
        Check.is("a mount is no commit", x.count(4), 1);
        Check.disk("the head has nothing", x, 1, 0, 0, 0, 0, 0);
        Check.disk("the entry", x, 26, 0, 2, 'f');
        Check.is("mount again", x.mount(), 0);
        Check.is("writes", x.count(3), 8);
    }

    /** "if the HEAD has n above 0". */
    private static void withALogOfOneBlock() {
        LogFs x = Disks.withFile();
        x.fill(1, 0, 1, 1);
        x.sync();
        x.fill(1, 0, 2, 1);
        x.failAfter(2);
        Check.powerFails("sync", x::sync);
        Check.disk("not in its place", x, 27, 0, 1);
        Check.is("mount", x.mount(), 1);
        Check.disk("in its place", x, 27, 0, 2);
        Check.disk("the head has nothing", x, 1, 0, 0, 0);
        Check.is("read", x.read(1, 0), 2);
    }

    /** "UnsupportedOperationException if the power fails." */
    private static void failsInBetween() {
        for (int n = 0; n < 4; n++) {
            LogFs x = withHeadOnly();
            x.failAfter(n);
            Check.powerFails("mount with " + n + " writes", x::mount);
            Check.is("the power is off", x.count(5), 1);
            Check.is("writes", x.count(3), 4 + n);
            Check.off("find", () -> x.find(0, Check.name("f")));
            Check.disk("the head", x, 1, 0, 3, 17, 25, 26, 0);
            Check.disk("the inode", x, 17, 16, n > 0 ? 1 : 0);
            Check.disk("the map", x, 25, 3, n > 1 ? 7 : 3);
            Check.disk("the entry", x, 26, 1, n > 2 ? 'f' : 0);
            Check.is("mount again", x.mount(), 3);
            Check.is("writes", x.count(3), 8 + n);
            Check.is("find", x.find(0, Check.name("f")), 1);
        }
    }

    /** "Memory is as the disk then", its log too. */
    private static void theLogInMemory() {
        LogFs x = Disks.withFile();
        x.mount();
        Check.memory("memory is as the disk", x, 4, 0, 2, 'f');
        Check.memory("memory is as the disk", x, 2, 16, 1, 1);
    }

    /** "(A failure that was to come and did not is still to come.)" */
    private static void aFailureThatDidNotComeIsStillToCome() {
        LogFs x = Disks.withFile();
        x.failAfter(1);
        Check.is("mount", x.mount(), 0);
        Check.is("mount again", x.mount(), 0);
        x.fill(1, 0, 1, 1);
        Check.powerFails("sync", x::sync);
        Check.is("writes", x.count(3), 9);
    }

    private static void aFailureThatCameIsNotToComeAgain() {
        LogFs x = withHeadOnly();
        Check.is("mount", x.mount(), 3);
        x.fill(1, 0, 1, 1);
        Check.is("sync", x.sync(), 8);
        LogFs y = withHeadOnly();
        y.failAfter(0);
        Check.powerFails("mount", y::mount);
        Check.is("mount again", y.mount(), 3);
        y.fill(1, 0, 1, 1);
        Check.is("sync", y.sync(), 8);
    }

    /** "(A failure that was to come and did not is still to come.)": the mount's own writes count. */
    private static void aFailureThatIsToComeBehindTheMount() {
        LogFs x = withHeadOnly();
        x.failAfter(4);
        Check.is("mount", x.mount(), 3);
        Check.is("the power is on", x.count(5), 0);
        x.fill(1, 0, 1, 1);
        Check.powerFails("sync", x::sync);
        Check.is("writes", x.count(3), 8);
    }
}
