/** Terms: what is changed within a call, in its order; the blocks of the inodes at hand are all apart. */
public final class OrderTest {
    /** The inode's block of the directory or file that the calls are about, inode 4 or 5. */
    private static final int ITS_INODE = 18;

    public static void main(String[] args) {
        makeInPlaceOfAFreeEntry();
        makeBehindTheLastEntry();
        makeTheFirstEntry();
        makeTheFirstEntryOfABlock();
        makeTheFirstEntryOfTheTenthBlock();
        makeTheFirstEntryOfTheEleventhBlock();
        makeTheFirstEntryOfTheTwelfthBlock();
        linkInPlaceOfAFreeEntry();
        linkBehindTheLastEntry();
        linkTheFirstEntry();
        linkTheFirstEntryOfTheEleventhBlock();
        linkTheFirstEntryOfTheTwelfthBlock();
        writeWithin();
        writeWithinTwoBlocks();
        writeOverTheEnd();
        writeANewBlock();
        writeTheTenthBlock();
        writeTheEleventhBlock();
        writeTheTwelfthBlock();
        writeTheLastBlock();
        truncateOneBlock();
        truncateAllBlocks();
        unlinkOneOfSeveral();
        unlinkAnEmptyFile();
        unlinkALongFile();
        unlinkADirectoryWithoutABlock();
        unlinkADirectoryWithABlock();
        unlinkADirectoryWithAnIndirectBlock();
        Check.end();
    }

    /**
     * Files 1, 2, 3, 5, 6 and 7 and directory 4 in the root, whose block is 26, and so many entries in the directory,
     * from block 27 on; the next inode is 8, in block 19. All is committed.
     */
    private static LogFs withDirectory(int entries) {
        LogFs x = new LogFs();
        for (int inode = 1; inode <= 7; inode++) {
            x.make(0, Check.name("n" + inode), inode == 4);
        }
        Disks.addEntries(x, 4, 1, entries);
        x.sync();
        return x;
    }

    /** The same, and file 5 of so many bytes from block 27 on. */
    private static LogFs withSize(int size) {
        LogFs x = withDirectory(0);
        Disks.grow(x, 5, size);
        x.sync();
        return x;
    }

    private static void make(String what, LogFs x, int... due) {
        Check.is(what, x.make(4, Check.name("new"), false), 8);
        Check.pending(what, x, due);
        Check.is(what, x.find(4, Check.name("new")), 8);
    }

    private static void link(String what, LogFs x, int... due) {
        Check.yes(what, x.link(4, Check.name("new"), 1));
        Check.pending(what, x, due);
        Check.is(what, x.find(4, Check.name("new")), 1);
    }

    /** A fill and a write change the same blocks. */
    private static void put(String what, int size, int at, int n, int... due) {
        LogFs x = withSize(size);
        Check.is("fill " + what, x.fill(5, at, 1, n), Math.max(size, at + n));
        Check.pending("fill " + what, x, due);
        if (n <= 8) {
            LogFs y = withSize(size);
            Check.is("write " + what, y.write(5, at, -1L, n), Math.max(size, at + n));
            Check.pending("write " + what, y, due);
        }
    }

    /** "MAKE: the inode's block, then the ENTRY"; "else the entry's block alone." */
    private static void makeInPlaceOfAFreeEntry() {
        LogFs x = withDirectory(3);
        x.unlink(4, Check.name("e2"));
        x.sync();
        make("a free entry", x, 19, 27);
    }

    /** "ENTRY: where it comes behind the last one: the entry's block, the directory's inode's block (size)". */
    private static void makeBehindTheLastEntry() {
        make("behind the last one", withDirectory(7), 19, 27, ITS_INODE);
    }

    /** "a block for it if it needs one". */
    private static void makeTheFirstEntry() {
        make("the first one", withDirectory(0), 19, 25, 27, ITS_INODE);
    }

    private static void makeTheFirstEntryOfABlock() {
        make("the first one of the second block", withDirectory(8), 19, 25, 28, ITS_INODE);
    }

    /** "then the inode's block (for blocks 0 to 9)". */
    private static void makeTheFirstEntryOfTheTenthBlock() {
        make("the first one of block 9", withDirectory(72), 19, 25, 36, ITS_INODE);
    }

    /** "if there is no indirect block, the map's block, the new indirect block, the inode's block, and in any case". */
    private static void makeTheFirstEntryOfTheEleventhBlock() {
        make("the first one of block 10", withDirectory(80), 19, 25, 37, ITS_INODE, 38);
    }

    /** "and in any case the map's block, the new block, the indirect block." */
    private static void makeTheFirstEntryOfTheTwelfthBlock() {
        make("the first one of block 11", withDirectory(88), 19, 25, 39, 37, ITS_INODE);
    }

    /** "LINK: the inode's block, then the entry." */
    private static void linkInPlaceOfAFreeEntry() {
        LogFs x = withDirectory(3);
        x.unlink(4, Check.name("e2"));
        x.sync();
        link("a free entry", x, 17, 27);
    }

    private static void linkBehindTheLastEntry() {
        link("behind the last one", withDirectory(7), 17, 27, ITS_INODE);
    }

    private static void linkTheFirstEntry() {
        link("the first one", withDirectory(0), 17, 25, 27, ITS_INODE);
    }

    private static void linkTheFirstEntryOfTheEleventhBlock() {
        link("the first one of block 10", withDirectory(80), 17, 25, 37, ITS_INODE, 38);
    }

    private static void linkTheFirstEntryOfTheTwelfthBlock() {
        link("the first one of block 11", withDirectory(88), 17, 25, 39, 37, ITS_INODE);
    }

    /** "then its bytes; then, if the size is more than it was, the inode's block." */
    private static void writeWithin() {
        put("the first byte", 10, 0, 1, 27);
        put("the last byte", 10, 9, 1, 27);
        put("a whole block", 64, 0, 64, 27);
        put("a block by way of the indirect one", 700, 640, 8, 38);
    }

    /** "for each block of the content that it reaches, in order". */
    private static void writeWithinTwoBlocks() {
        put("over two blocks", 128, 60, 8, 27, 28);
        put("over blocks 9 and 10", 700, 639, 2, 36, 38);
        put("nearly two whole blocks", 128, 32, 64, 27, 28);
        put("up to the end of a block", 128, 56, 8, 27);
        put("from the beginning of a block", 128, 64, 8, 28);
    }

    /** "then, if the size is more than it was, the inode's block." */
    private static void writeOverTheEnd() {
        put("behind the last byte", 10, 10, 1, 27, ITS_INODE);
        put("over the last byte", 10, 9, 2, 27, ITS_INODE);
        put("up to the end of its block", 10, 10, 54, 27, ITS_INODE);
        put("over two blocks and the last byte", 100, 60, 64, 27, 28, ITS_INODE);
        put("in a block by way of the indirect one", 700, 700, 4, 38, ITS_INODE);
    }

    /** "a block for it if there is none": "the map's block, the new block, then the inode's block". */
    private static void writeANewBlock() {
        put("the first block", 0, 0, 1, 25, 27, ITS_INODE);
        put("the second block", 64, 64, 8, 25, 28, ITS_INODE);
        put("over the end of the first", 64, 63, 2, 27, 25, 28, ITS_INODE);
        put("over the end of the first", 60, 60, 8, 27, 25, 28, ITS_INODE);
    }

    /** "then the inode's block (for blocks 0 to 9)". */
    private static void writeTheTenthBlock() {
        put("block 9", 576, 576, 64, 25, 36, ITS_INODE);
        put("over the end of block 8", 575, 575, 2, 35, 25, 36, ITS_INODE);
    }

    /** "else, if there is no indirect block, the map's block, the new indirect block, the inode's block". */
    private static void writeTheEleventhBlock() {
        put("block 10", 640, 640, 1, 25, 37, ITS_INODE, 38);
        put("over the end of block 9", 640, 636, 8, 36, 25, 37, ITS_INODE, 38);
    }

    /** "and in any case the map's block, the new block, the indirect block." */
    private static void writeTheTwelfthBlock() {
        put("block 11", 704, 704, 1, 25, 39, 37, ITS_INODE);
        put("over the end of block 10", 704, 700, 8, 38, 25, 39, 37, ITS_INODE);
    }

    private static void writeTheLastBlock() {
        put("block 15", 960, 960, 40, 25, 43, 37, ITS_INODE);
        put("over the end of block 14", 959, 959, 2, 42, 25, 43, 37, ITS_INODE);
    }

    /** "TRUNCATE: if it has blocks the map's block, then the inode's block". */
    private static void truncateOneBlock() {
        LogFs x = withSize(1);
        Check.yes("truncate", x.truncate(5));
        Check.pending("truncate", x, 25, ITS_INODE);
    }

    /** "(all of them, and the indirect one, are free)"; "(size 0, blocks 0)". */
    private static void truncateAllBlocks() {
        LogFs x = withSize(1000);
        Check.yes("truncate", x.truncate(5));
        Check.pending("truncate", x, 25, ITS_INODE);
        Check.is("free blocks", x.count(1), 101);
        Check.memory("inode 5", x, ITS_INODE, 16, 1, 1, 0, 0, 0, 0, 0, 0, 0, 0, 0, 0, 0, 0, 0, 0);
    }

    /** "UNLINK: the entry's block; then, of a file with more links, the inode's block". */
    private static void unlinkOneOfSeveral() {
        LogFs x = withSize(100);
        x.link(4, Check.name("e"), 5);
        x.sync();
        Check.yes("unlink", x.unlink(4, Check.name("e")));
        Check.pending("one of two links", x, 29, ITS_INODE);
        Check.memory("inode 5", x, ITS_INODE, 16, 1, 1, 0, 100, 27, 28, 0);
        Check.is("free blocks", x.count(1), 98);
    }

    /** "else what TRUNCATE does, and the inode's block (all 0)": without blocks not the map's. */
    private static void unlinkAnEmptyFile() {
        LogFs x = withSize(0);
        Check.yes("unlink", x.unlink(0, Check.name("n5")));
        Check.pending("a file without a block", x, 26, ITS_INODE);
        Check.memory("inode 5", x, ITS_INODE, 16, new int[16]);
    }

    /** "else what TRUNCATE does, and the inode's block (all 0)". */
    private static void unlinkALongFile() {
        LogFs x = withSize(1000);
        Check.yes("unlink", x.unlink(0, Check.name("n5")));
        Check.pending("a file with blocks", x, 26, 25, ITS_INODE);
        Check.memory("inode 5", x, ITS_INODE, 16, new int[16]);
        Check.is("free blocks", x.count(1), 101);
    }

    private static void unlinkADirectoryWithoutABlock() {
        LogFs x = withDirectory(0);
        Check.yes("unlink", x.unlink(0, Check.name("n4")));
        Check.pending("a directory without a block", x, 26, ITS_INODE);
        Check.memory("inode 4", x, ITS_INODE, 0, new int[16]);
    }

    private static void unlinkADirectoryWithABlock() {
        LogFs x = withDirectory(1);
        x.unlink(4, Check.name("e1"));
        x.sync();
        Check.yes("unlink", x.unlink(0, Check.name("n4")));
        Check.pending("a directory with a block", x, 26, 25, ITS_INODE);
        Check.memory("inode 4", x, ITS_INODE, 0, new int[16]);
        Check.is("free blocks", x.count(1), 101);
    }

    private static void unlinkADirectoryWithAnIndirectBlock() {
        LogFs x = withDirectory(125);
        for (int i = 1; i <= 125; i++) {
            x.unlink(4, Check.name("e" + i));
        }
        x.sync();
        Check.is("free blocks", x.count(1), 84);
        Check.yes("unlink", x.unlink(0, Check.name("n4")));
        Check.pending("a directory with blocks", x, 26, 25, ITS_INODE);
        Check.memory("inode 4", x, ITS_INODE, 0, new int[16]);
        Check.is("free blocks", x.count(1), 101);
    }
}
