/** Objects in states that several tests begin from. */
final class Disks {
    private Disks() {
    }

    /** The root has one file, "f", inode 1, and all is committed. */
    static LogFs withFile() {
        LogFs x = new LogFs();
        x.make(0, Check.name("f"), false);
        x.sync();
        return x;
    }

    /** Fills a file from its end on with whole blocks. */
    static void addBlocks(LogFs x, int inode, int blocks) {
        for (int i = 0; i < blocks; i++) {
            x.fill(inode, x.look(inode, 2), 7, 64);
        }
    }

    /** Fills a file of size 0 with so many bytes. */
    static void grow(LogFs x, int inode, int size) {
        addBlocks(x, inode, size / 64);
        if (size % 64 != 0) {
            x.fill(inode, size - size % 64, 7, size % 64);
        }
    }

    /** Enters a file into a directory so often, as "e1", "e2" and so on. */
    static void addEntries(LogFs x, int directory, int inode, int entries) {
        for (int i = 1; i <= entries; i++) {
            x.link(directory, Check.name("e" + i), inode);
        }
    }

    /** Files 1 to 8 in the root, of which 1 to 5 are as long as may be; so many blocks are left free. */
    static LogFs withFreeBlocks(int free) {
        LogFs x = new LogFs();
        for (int i = 1; i <= 8; i++) {
            x.make(0, Check.name("f" + i), false);
        }
        for (int inode = 1; inode <= 5; inode++) {
            grow(x, inode, 1000);
        }
        addBlocks(x, 6, 10);
        addBlocks(x, 7, x.count(1) - free);
        x.sync();
        return x;
    }

    /** The root has 80 entries in its ten blocks, of files 1 to 8; so many blocks, at most 17, are left free. */
    static LogFs withLongRootAndFreeBlocks(int free) {
        LogFs x = new LogFs();
        for (int i = 1; i <= 8; i++) {
            x.make(0, Check.name("f" + i), false);
        }
        addEntries(x, 0, 1, 72);
        for (int inode = 1; inode <= 4; inode++) {
            grow(x, inode, 1000);
        }
        addBlocks(x, 5, 7);
        addBlocks(x, 6, Math.min(10, 17 - free));
        addBlocks(x, 7, Math.max(0, 7 - free));
        x.sync();
        return x;
    }

    /**
     * All is committed: "f", inode 1, has 960 bytes, "g", inode 2, which is "h" too, has 1 byte, and "d", inode 3, is
     * an empty directory. Then so many blocks, at most 11, are changed.
     */
    static LogFs withPending(int pending) {
        LogFs x = withFile();
        x.make(0, Check.name("g"), false);
        x.make(0, Check.name("d"), true);
        x.link(0, Check.name("h"), 2);
        grow(x, 1, 960);
        grow(x, 2, 1);
        x.sync();
        for (int i = 0; i < pending; i++) {
            x.fill(1, 64 * i, 9, 1);
        }
        return x;
    }

    /** A disk whose power failed, with one file, "f", inode 1. */
    static LogFs withoutPower() {
        LogFs x = withFile();
        x.write(1, 0, 0x6100000000000000L, 1);
        x.failAfter(0);
        Check.powerFails("sync()", x::sync);
        return x;
    }
}
