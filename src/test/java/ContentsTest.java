/** Terms, CONTENTS: each sentence that names an edge has a method, which begins with it. */
public final class ContentsTest {
    public static void main(String[] args) {
        aFileHasAsManyBlocksAsItsSizeNeeds();
        aDirectoryHasAsManyBlocksAsItsSizeNeeds();
        aFileHasAtMostThousandBytes();
        aDirectoryHasAtMostThousandBytes();
        theIndirectBlockComesWithTheEleventh();
        theIndirectBlockGoesWithTheEleventh();
        aFileMayGrowAgain();
        Check.end();
    }

    /** "CONTENTS have as many blocks as the size needs". */
    private static void aFileHasAsManyBlocksAsItsSizeNeeds() {
        int[] sizes = {0, 1, 63, 64, 65, 127, 128, 129, 576, 577, 639, 640, 641, 704, 705, 959, 960, 961, 1000};
        int[] blocks = {0, 1, 1, 1, 2, 2, 2, 3, 9, 10, 10, 10, 11, 11, 12, 15, 15, 16, 16};
        for (int i = 0; i < sizes.length; i++) {
            LogFs x = Disks.withFile();
            Disks.grow(x, 1, sizes[i]);
            String what = "a file of " + sizes[i] + " bytes";
            Check.is(what + ": size", x.look(1, 2), sizes[i]);
            Check.is(what + ": blocks", x.look(1, 3), blocks[i]);
            Check.is(what + ": free blocks", x.count(1), 101 - blocks[i] - (blocks[i] > 10 ? 1 : 0));
        }
    }

    /** "CONTENTS have as many blocks as the size needs". */
    private static void aDirectoryHasAsManyBlocksAsItsSizeNeeds() {
        int[] entries = {0, 1, 7, 8, 9, 16, 17, 79, 80, 81, 88, 89, 120, 121, 125};
        int[] blocks = {0, 1, 1, 1, 2, 2, 3, 10, 10, 11, 11, 12, 15, 16, 16};
        for (int i = 0; i < entries.length; i++) {
            LogFs x = Disks.withFile();
            x.make(0, Check.name("d"), true);
            Disks.addEntries(x, 2, 1, entries[i]);
            String what = "a directory of " + entries[i] + " entries";
            Check.is(what + ": size", x.look(2, 2), 8 * entries[i]);
            Check.is(what + ": blocks", x.look(2, 3), blocks[i]);
            Check.is(what + ": free blocks", x.count(1), 101 - blocks[i] - (blocks[i] > 10 ? 1 : 0));
        }
    }

    /** "and at most 1000 bytes (so 16 blocks, the last six by way of the indirect block". */
    private static void aFileHasAtMostThousandBytes() {
        LogFs x = Disks.withFile();
        Disks.grow(x, 1, 999);
        Check.is("1001 bytes", x.write(1, 999, -1L, 2), LogFs.NONE);
        Check.is("1000 bytes", x.write(1, 999, -1L, 1), 1000);
        Check.is("1001 bytes", x.write(1, 1000, -1L, 1), LogFs.NONE);
        Check.is("1001 bytes", x.fill(1, 1000, 1, 1), LogFs.NONE);
        Check.is("size", x.look(1, 2), 1000);
        Check.is("the last byte", x.read(1, 999), 255);
    }

    /** "and at most 1000 bytes". */
    private static void aDirectoryHasAtMostThousandBytes() {
        LogFs x = Disks.withFile();
        x.make(0, Check.name("d"), true);
        Disks.addEntries(x, 2, 1, 124);
        Check.is("the last entry", x.make(2, Check.name("last"), false), 3);
        Check.is("size", x.look(2, 2), 1000);
        Check.is("one more", x.make(2, Check.name("more"), false), LogFs.NONE);
        Check.no("one more", x.link(2, Check.name("more"), 1));
        Check.is("find", x.find(2, Check.name("last")), 3);
    }

    /** "which is there just as long as there are such". */
    private static void theIndirectBlockComesWithTheEleventh() {
        LogFs x = Disks.withFile();
        Disks.grow(x, 1, 639);
        Check.is("the last byte of ten blocks", x.write(1, 639, -1L, 1), 640);
        Check.memory("no indirect block", x, 17, 30, 0);
        Check.is("free blocks", x.count(1), 91);
        Check.is("one byte more", x.write(1, 640, -1L, 1), 641);
        Check.memory("the indirect block", x, 17, 30, 37);
        Check.is("free blocks", x.count(1), 89);
        Check.is("the twelfth needs no further one", x.fill(1, 641, 1, 64), 705);
        Check.memory("the indirect block", x, 17, 30, 37);
        Check.is("free blocks", x.count(1), 88);
    }

    /** "which is there just as long as there are such". */
    private static void theIndirectBlockGoesWithTheEleventh() {
        LogFs x = Disks.withFile();
        Disks.grow(x, 1, 641);
        Check.yes("truncate", x.truncate(1));
        Check.memory("no indirect block", x, 17, 30, 0);
        Check.is("all is free", x.count(1), 101);
        Check.memory("the map", x, 25, 3, 7, 0);
        Disks.grow(x, 1, 641);
        x.unlink(0, Check.name("f"));
        Check.is("all is free", x.count(1), 101);
        Check.memory("the map", x, 25, 3, 7, 0);
        x.make(0, Check.name("d"), true);
        x.make(0, Check.name("f"), false);
        Disks.addEntries(x, 1, 2, 81);
        for (int i = 1; i <= 81; i++) {
            x.unlink(1, Check.name("e" + i));
        }
        Check.is("a directory's blocks stay", x.count(1), 89);
        Check.yes("unlink the directory", x.unlink(0, Check.name("d")));
        Check.is("all is free", x.count(1), 101);
    }

    private static void aFileMayGrowAgain() {
        LogFs x = Disks.withFile();
        Disks.grow(x, 1, 1000);
        x.truncate(1);
        Disks.grow(x, 1, 1000);
        Check.is("size", x.look(1, 2), 1000);
        Check.is("free blocks", x.count(1), 84);
        Check.is("read", x.read(1, 999), 7);
    }
}
