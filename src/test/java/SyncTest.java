/** Promise 8. */
public final class SyncTest {
    public static void main(String[] args) {
        ordinary();
        nothingIsPending();
        theOrderOfWrites();
        moreThanTenPending();
        powerIsOff();
        Check.end();
    }

    private static void ordinary() {
        LogFs x = new LogFs();
        x.make(0, Check.name("f"), false);
        Check.is("sync", x.sync(), 8);
        Check.pending("none is pending", x);
        Check.is("writes", x.count(3), 8);
        Check.is("commits", x.count(4), 1);
        Check.disk("the log", x, 2, 16, 1, 1);
        Check.disk("the log", x, 3, 3, 7);
        Check.disk("the log", x, 4, 0, 2, 'f');
        Check.disk("the inode", x, 17, 16, 1, 1);
        Check.disk("the map", x, 25, 3, 7);
        Check.disk("the entry", x, 26, 0, 2, 'f');
        Check.disk("the head has nothing", x, 1, 0, 0, 0, 0, 0, 0);
        x.fill(1, 0, 5, 1);
        x.fill(1, 0, 6, 1);
        Check.is("sync", x.sync(), 8);
        Check.is("writes", x.count(3), 16);
        Check.disk("the log anew", x, 2, 3, 15);
        Check.disk("the log anew", x, 3, 0, 6);
        Check.memory("the log in memory is as it was", x, 2, 0, 0);
        Check.memory("the log in memory is as it was", x, 3, 0, 0);
    }

    private static void nothingIsPending() {
        LogFs x = new LogFs();
        Check.is("sync", x.sync(), 0);
        x.failAfter(0);
        Check.is("sync without a write", x.sync(), 0);
        Check.is("the power is on", x.count(5), 0);
        Check.is("no commit", x.count(4), 0);
        Check.is("no write", x.count(3), 0);
    }

    /** Each number of writes that are done leaves the disk with just these. */
    private static void theOrderOfWrites() {
        for (int n = 0; n <= 8; n++) {
            LogFs x = new LogFs();
            x.make(0, Check.name("f"), false);
            x.failAfter(n);
            if (n < 8) {
                Check.powerFails("sync with " + n + " writes", x::sync);
            } else {
                Check.is("sync with all writes", x.sync(), 8);
            }
            String what = "after " + n + " writes";
            Check.is(what + ": writes", x.count(3), n);
            Check.is(what + ": commits", x.count(4), 1);
            Check.disk(what, x, 2, 16, n > 0 ? 1 : 0);
            Check.disk(what, x, 3, 3, n > 1 ? 7 : 0);
            Check.disk(what, x, 4, 1, n > 2 ? 'f' : 0);
            boolean hasHead = n > 3 && n < 8;
            Check.disk(what, x, 1, 0, hasHead ? 3 : 0, hasHead ? 17 : 0, hasHead ? 25 : 0, hasHead ? 26 : 0, 0);
            Check.disk(what, x, 17, 16, n > 4 ? 1 : 0);
            Check.disk(what, x, 25, 3, n > 5 ? 7 : 3);
            Check.disk(what, x, 26, 1, n > 6 ? 'f' : 0);
        }
    }

    private static void moreThanTenPending() {
        LogFs x = Disks.withFile();
        Disks.addBlocks(x, 1, 9);
        Check.is("pending", x.count(0), 11);
        Check.is("one commit alone", x.sync(), 24);
        Check.is("commits", x.count(4), 2);
    }

    private static void powerIsOff() {
        LogFs x = Disks.withoutPower();
        Check.off("sync", x::sync);
        Check.is("commits", x.count(4), 2);
    }
}
