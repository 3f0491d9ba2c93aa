/** Promise 1, and "At first blocks 0 to 25 are used, inode 0 is the ROOT, ... all else is free." */
public final class NewObjectTest {
    public static void main(String[] args) {
        theDiskIsAsAtFirst();
        itIsMounted();
        allElseIsFree();
        thePowerIsOn();
        theRootIsAnEmptyDirectory();
        nothingIsInTheLog();
        twoObjectsAreApart();
        Check.is("NONE", LogFs.NONE, -1);
        Check.end();
    }

    private static int first(int block, int k) {
        if (block == 17) {
            return k == 0 ? 2 : k == 1 ? 1 : 0;
        }
        if (block == 25) {
            return k < 3 ? 255 : k == 3 ? 3 : 0;
        }
        return 0;
    }

    /** "The disk as at first". */
    private static void theDiskIsAsAtFirst() {
        for (int block = 0; block < 128; block++) {
            LogFs x = new LogFs();
            for (int k = 0; k < 64; k++) {
                Check.is("disk(" + block + ", " + k + ")", x.disk(block, k), first(block, k));
            }
        }
    }

    /** "and it is mounted": memory is as the disk. */
    private static void itIsMounted() {
        for (int block = 0; block < 128; block++) {
            LogFs x = new LogFs();
            for (int k = 0; k < 64; k++) {
                Check.is("memory(" + block + ", " + k + ")", x.memory(block, k), first(block, k));
            }
        }
    }

    /** "all else is free": blocks 26 to 127 and inodes 1 to 31. */
    private static void allElseIsFree() {
        LogFs x = new LogFs();
        int[] counts = {0, 102, 31, 0, 0, 0, -1, -1, -1};
        for (int what = 0; what < counts.length; what++) {
            Check.is("count(" + what + ")", x.count(what), counts[what]);
        }
        for (int inode = 1; inode <= 31; inode++) {
            for (int what = 0; what <= 4; what++) {
                Check.is("look(" + inode + ", " + what + ")", x.look(inode, what), 0);
            }
        }
    }

    /** "power is on", and no failure is to come. */
    private static void thePowerIsOn() {
        LogFs x = new LogFs();
        Check.is("the power is on", x.count(5), 0);
        Check.is("sync", x.sync(), 0);
        Check.is("make", x.make(0, Check.name("a"), false), 1);
        Check.is("sync", x.sync(), 8);
        Check.is("the power is on", x.count(5), 0);
    }

    /** "inode 0 is the ROOT, a directory with 1 link and size 0". */
    private static void theRootIsAnEmptyDirectory() {
        LogFs x = new LogFs();
        int[] looks = {2, 1, 0, 0, 0};
        for (int what = 0; what < looks.length; what++) {
            Check.is("look(0, " + what + ")", x.look(0, what), looks[what]);
        }
        Check.is("find", x.find(0, Check.name("a")), LogFs.NONE);
        Check.outside("read", () -> x.read(0, 0));
        Check.no("truncate", x.truncate(0));
        Check.is("write", x.write(0, 0, 0L, 1), LogFs.NONE);
    }

    private static void nothingIsInTheLog() {
        LogFs x = new LogFs();
        x.failAfter(0);
        Check.is("mount", x.mount(), 0);
        Check.is("writes", x.count(3), 0);
    }

    private static void twoObjectsAreApart() {
        LogFs x = new LogFs();
        LogFs y = new LogFs();
        x.make(0, Check.name("a"), false);
        x.sync();
        Check.is("find in the other", y.find(0, Check.name("a")), LogFs.NONE);
        Check.is("writes of the other", y.count(3), 0);
        Check.disk("disk of the other", y, 26, 0, 0, 0);
        x.failAfter(0);
        y.make(0, Check.name("b"), false);
        Check.is("no failure of the other", y.sync(), 8);
    }
}
