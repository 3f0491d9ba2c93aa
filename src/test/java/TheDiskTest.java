import java.util.Arrays;

/** Terms, THE DISK: each sentence that names an edge has a method, which begins with it. */
public final class TheDiskTest {
    public static void main(String[] args) {
        blockZeroHasNothing();
        theRestOfTheHeadIsZero();
        fourInodesInEachBlock();
        theHigherByteOfTheSizeIsFirst();
        tenBlocksAndSixByWayOfTheIndirectOne();
        byteFifteenOfAnInodeIsZero();
        noBlockIsToldAsZero();
        aFreeInodeIsAllZero();
        theMapHasABitOfEachBlock();
        bytesOfTheMapFromSixteenOnAreZero();
        contentsReachFromBlock26To127();
        theLeastFreeBlockIsTaken();
        theLeastFreeBlockOverBytesOfTheMap();
        aContentThatIsTakenBecomesZero();
        anIndirectBlockThatIsTakenBecomesZero();
        aDirectorysBlockThatIsTakenBecomesZero();
        Check.end();
    }

    /** "0 has nothing." */
    private static void blockZeroHasNothing() {
        LogFs x = Disks.withFreeBlocks(0);
        x.truncate(1);
        x.unlink(0, Check.name("f2"));
        x.sync();
        Check.disk("block 0", x, 0, 0, new int[64]);
        Check.memory("block 0", x, 0, 0, new int[64]);
    }

    /** "1 is the HEAD: byte 0 a number n, bytes 1 .. n blocks, the rest 0." */
    private static void theRestOfTheHeadIsZero() {
        LogFs x = Disks.withPending(11);
        x.sync();
        x.fill(1, 0, 3, 1);
        x.failAfter(2);
        Check.powerFails("sync", x::sync);
        int[] head = new int[64];
        head[0] = 1;
        head[1] = 27;
        Check.disk("the head, shorter than the one ahead of it", x, 1, 0, head);
        x.mount();
        Check.disk("the head with nothing", x, 1, 0, new int[64]);
    }

    /** "17 .. 24 have INODES 0 .. 31, four in each, 16 bytes: 0 the TYPE, 1 LINKS". */
    private static void fourInodesInEachBlock() {
        LogFs x = new LogFs();
        for (int inode = 1; inode <= 31; inode++) {
            Check.is("make", x.make(0, Check.name("n" + inode), inode % 3 == 0), inode);
        }
        for (int inode = 1; inode <= 31; inode++) {
            int type = inode % 3 == 0 ? 2 : 1;
            Check.memory("inode " + inode, x, 17 + inode / 4, inode % 4 * 16, type, 1, 0, 0);
        }
        Check.memory("inode 3 is the last of its block", x, 17, 48, 2, 1);
        Check.memory("inode 4 is the first of the next", x, 18, 0, 1, 1);
        Check.memory("inode 31 is the last of all", x, 24, 48, 1, 1);
        Check.memory("the map is behind them", x, 25, 0, 255);
    }

    /** "2 and 3 the SIZE (the higher first)". */
    private static void theHigherByteOfTheSizeIsFirst() {
        int[] sizes = {1, 255, 256, 257, 512, 999, 1000};
        for (int size : sizes) {
            LogFs x = Disks.withFile();
            Disks.grow(x, 1, size);
            Check.memory("the size " + size, x, 17, 18, size / 256, size % 256);
            Check.is("the size", x.look(1, 2), size);
        }
    }

    /** "4 to 13 the blocks 0 .. 9 of its content, 14 its INDIRECT block, byte k of which is block 10 + k". */
    private static void tenBlocksAndSixByWayOfTheIndirectOne() {
        LogFs x = Disks.withFile();
        Disks.grow(x, 1, 1000);
        Check.memory("the inode", x, 17, 20, 27, 28, 29, 30, 31, 32, 33, 34, 35, 36, 37, 0);
        int[] indirect = new int[64];
        for (int k = 0; k < 6; k++) {
            indirect[k] = 38 + k;
        }
        Check.memory("the indirect block", x, 37, 0, indirect);
        Check.is("the last block of the inode", x.fill(1, 576, 1, 64), 1000);
        Check.memory("the last block of the inode", x, 36, 0, 1, 1);
        Check.is("the first of the indirect one", x.fill(1, 640, 2, 64), 1000);
        Check.memory("the first of the indirect one", x, 38, 0, 2, 2);
        Check.is("the last of the indirect one", x.fill(1, 960, 3, 40), 1000);
        Check.memory("the last of the indirect one", x, 43, 0, 3, 3);
    }

    /** "15 is 0". */
    private static void byteFifteenOfAnInodeIsZero() {
        LogFs x = Disks.withFile();
        x.make(0, Check.name("d"), true);
        Disks.grow(x, 1, 1000);
        Disks.addEntries(x, 2, 1, 90);
        Check.memory("byte 15 of a long file", x, 17, 31, 0);
        Check.memory("byte 15 of a long directory", x, 17, 47, 0);
    }

    /** "no block is told as 0." */
    private static void noBlockIsToldAsZero() {
        LogFs x = Disks.withFile();
        Check.memory("no block", x, 17, 20, 0, 0, 0, 0, 0, 0, 0, 0, 0, 0, 0, 0);
        Disks.addBlocks(x, 1, 1);
        Check.memory("one block", x, 17, 20, 27, 0, 0, 0, 0, 0, 0, 0, 0, 0, 0, 0);
        Disks.addBlocks(x, 1, 9);
        Check.memory("ten blocks and no indirect one", x, 17, 20, 27, 28, 29, 30, 31, 32, 33, 34, 35, 36, 0, 0);
        Disks.addBlocks(x, 1, 1);
        Check.memory("one by way of the indirect block", x, 37, 0, 38, 0, 0, 0, 0, 0);
    }

    /** "all 0 if it is free". */
    private static void aFreeInodeIsAllZero() {
        LogFs x = Disks.withFile();
        Disks.grow(x, 1, 1000);
        x.make(0, Check.name("d"), true);
        x.make(2, Check.name("e"), false);
        x.unlink(2, Check.name("e"));
        x.unlink(0, Check.name("d"));
        x.unlink(0, Check.name("f"));
        Check.memory("inodes 1, 2 and 3", x, 17, 16, new int[48]);
        x.sync();
        Check.disk("inodes 1, 2 and 3", x, 17, 16, new int[48]);
    }

    /** "25 is the MAP: bit b modulo 8 of byte b / 8 is 1 if block b is used". */
    private static void theMapHasABitOfEachBlock() {
        LogFs x = Disks.withFile();
        int[] due = {15, 31, 63, 127, 255};
        for (int value : due) {
            Disks.addBlocks(x, 1, 1);
            Check.memory("blocks 27 to 31", x, 25, 2, 255, value, 0);
        }
        Disks.addBlocks(x, 1, 1);
        Check.memory("block 32", x, 25, 3, 255, 1, 0);
        x.truncate(1);
        Check.memory("none of them", x, 25, 2, 255, 7, 0, 0);
    }

    /** "(bytes 16 and more are 0)". */
    private static void bytesOfTheMapFromSixteenOnAreZero() {
        LogFs x = Disks.withFreeBlocks(0);
        int[] map = new int[64];
        for (int k = 0; k < 16; k++) {
            map[k] = 255;
        }
        Check.memory("the map of a full disk", x, 25, 0, map);
        Check.is("free blocks", x.count(1), 0);
        LogFs y = Disks.withFreeBlocks(1);
        map[15] = 127;
        Check.memory("the map with block 127 free", y, 25, 0, map);
        Check.is("free blocks", y.count(1), 1);
    }

    /** "26 .. 127 are for contents." */
    private static void contentsReachFromBlock26To127() {
        LogFs x = new LogFs();
        x.make(0, Check.name("a"), false);
        Check.memory("the first one is the root's", x, 17, 4, 26, 0);
        LogFs y = Disks.withFreeBlocks(1);
        Check.is("write to the last one", y.write(8, 0, -1L, 8), 8);
        Check.memory("inode 8", y, 19, 4, 127, 0);
        Check.memory("the last block", y, 127, 0, 255, 255, 255, 255, 255, 255, 255, 255, 0);
        Check.is("read", y.read(8, 7), 255);
        Check.is("there is none behind it", y.fill(8, 1, 1, 64), LogFs.NONE);
        y.sync();
        Check.disk("the last block", y, 127, 0, 255);
    }

    /** "A FREE BLOCK that is taken is the least one". */
    private static void theLeastFreeBlockIsTaken() {
        LogFs x = Disks.withFile();
        x.make(0, Check.name("g"), false);
        x.make(0, Check.name("h"), false);
        for (int inode = 1; inode <= 3; inode++) {
            Disks.addBlocks(x, inode, 1);
        }
        x.truncate(2);
        x.truncate(1);
        Disks.addBlocks(x, 3, 3);
        Check.memory("blocks of 3: 27 and 28 ahead of 30", x, 17, 52, 29, 27, 28, 30, 0);
    }

    /** "A FREE BLOCK that is taken is the least one", of two bytes of the map. */
    private static void theLeastFreeBlockOverBytesOfTheMap() {
        LogFs x = Disks.withFile();
        x.make(0, Check.name("g"), false);
        x.make(0, Check.name("h"), false);
        Disks.addBlocks(x, 1, 4);
        Disks.addBlocks(x, 2, 1);
        Disks.addBlocks(x, 3, 1);
        x.truncate(3);
        x.truncate(2);
        Disks.addBlocks(x, 3, 3);
        Check.memory("blocks of 3: 31, 32 and 33", x, 17, 52, 31, 32, 33, 0);
    }

    /** "its bytes become 0." */
    private static void aContentThatIsTakenBecomesZero() {
        LogFs x = Disks.withFile();
        Disks.addBlocks(x, 1, 12);
        x.truncate(1);
        x.sync();
        x.fill(1, 0, 5, 2);
        Check.memory("a block that had a content", x, 27, 0, firstOnes(5, 5));
        x.fill(1, 2, 5, 62);
        Disks.addBlocks(x, 1, 9);
        x.make(0, Check.name("g"), false);
        x.fill(2, 0, 6, 1);
        Check.memory("a block that was an indirect one", x, 37, 0, firstOnes(6));
    }

    /** "its bytes become 0." */
    private static void anIndirectBlockThatIsTakenBecomesZero() {
        LogFs x = Disks.withFile();
        x.make(0, Check.name("g"), false);
        Disks.addBlocks(x, 1, 10);
        Disks.addBlocks(x, 2, 1);
        x.truncate(2);
        x.sync();
        Check.memory("the block that will be taken", x, 37, 0, 7);
        x.fill(1, 640, 5, 1);
        Check.memory("the indirect block", x, 37, 0, firstOnes(38));
        Check.memory("the content's block", x, 38, 0, firstOnes(5));
    }

    /** "its bytes become 0." */
    private static void aDirectorysBlockThatIsTakenBecomesZero() {
        LogFs x = Disks.withFile();
        x.make(0, Check.name("d"), true);
        Disks.addBlocks(x, 1, 1);
        x.truncate(1);
        x.make(2, Check.name("e"), false);
        Check.memory("the directory's block", x, 27, 0, firstOnes(4, 'e'));
        Check.is("entries", x.look(2, 4), 1);
    }

    /** A block of 64 bytes that begins so and has 0 behind it. */
    private static int[] firstOnes(int... first) {
        return Arrays.copyOf(first, 64);
    }
}
