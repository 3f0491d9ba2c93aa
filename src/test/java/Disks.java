/** Objects in states that several tests begin from. */
final class Disks {
    private Disks() {
    }

    /** The root has one file, "f", inode 1, and all is committed. */
    static LogFs withFile() {
        LogFs x = new LogFs();
        x.make(0, Check.name("f"), false);
        x.sync();
        return x;
    }

    /** Fills a file from its end on with whole blocks. */
    static void addBlocks(LogFs x, int inode, int blocks) {
        for (int i = 0; i < blocks; i++) {
            x.fill(inode, x.look(inode, 2), 7, 64);
        }
    }

    /** Files 1 to 8 in the root, of which 1 to 5 are as long as may be; so many blocks are left free. */
    static LogFs withFreeBlocks(int free) {
        LogFs x = new LogFs();
        for (int i = 1; i <= 8; i++) {
            x.make(0, Check.name("f" + i), false);
        }
        for (int inode = 1; inode <= 5; inode++) {
            addBlocks(x, inode, 15);
            x.fill(inode, 960, 7, 40);
        }
        addBlocks(x, 6, 10);
        addBlocks(x, 7, x.count(1) - free);
        x.sync();
        return x;
    }

    /** A disk whose power failed, with one file, "f", inode 1. */
    static LogFs withoutPower() {
        LogFs x = withFile();
        x.write(1, 0, 0x6100000000000000L, 1);
        x.failAfter(0);
        Check.powerFails("sync()", x::sync);
        return x;
    }
}
