/** Promise 13: each what, with its edges, and each cause of an exception. */
public final class LookTest {
    private static final int[] NO_INODE = {-1, 32, 33, 36, 127, 128, 1000, Integer.MIN_VALUE, Integer.MAX_VALUE};

    public static void main(String[] args) {
        filesAndDirectories();
        aFreeInode();
        theLastInode();
        blocksWithoutTheIndirectOne();
        entriesThatAreNotFree();
        noEntriesOfAFile();
        noSuchInode();
        noSuchWhat();
        thePowerIsOff();
        Check.end();
    }

    private static void look(LogFs x, int inode, int... due) {
        for (int what = 0; what < due.length; what++) {
            Check.is("look(" + inode + ", " + what + ")", x.look(inode, what), due[what]);
        }
    }

    /** "what 0: type, 1: links, 2: size, 3: blocks of its content, 4: entries". */
    private static void filesAndDirectories() {
        LogFs x = Disks.withFile();
        look(x, 0, 2, 1, 8, 1, 1);
        look(x, 1, 1, 1, 0, 0, 0);
        x.fill(1, 0, 9, 64);
        look(x, 1, 1, 1, 64, 1, 0);
        x.link(0, Check.name("g"), 1);
        x.fill(1, 64, 9, 1);
        look(x, 1, 1, 2, 65, 2, 0);
        x.make(0, Check.name("d"), true);
        look(x, 2, 2, 1, 0, 0, 0);
        look(x, 0, 2, 1, 24, 1, 3);
        x.make(2, Check.name("e"), true);
        look(x, 2, 2, 1, 8, 1, 1);
    }

    /** "Of an inode 0 .. 31", also of one that is free. */
    private static void aFreeInode() {
        LogFs x = Disks.withFile();
        look(x, 2, 0, 0, 0, 0, 0);
        look(x, 31, 0, 0, 0, 0, 0);
        x.fill(1, 0, 9, 64);
        x.unlink(0, Check.name("f"));
        look(x, 1, 0, 0, 0, 0, 0);
    }

    /** "Of an inode 0 .. 31". */
    private static void theLastInode() {
        LogFs x = new LogFs();
        for (int inode = 1; inode <= 31; inode++) {
            x.make(0, Check.name("n" + inode), true);
        }
        look(x, 31, 2, 1, 0, 0, 0);
        look(x, 0, 2, 1, 248, 4, 31);
        x.unlink(0, Check.name("n5"));
        x.make(31, Check.name("a"), false);
        look(x, 31, 2, 1, 8, 1, 1);
    }

    /** "3: blocks of its content, without the indirect one". */
    private static void blocksWithoutTheIndirectOne() {
        LogFs x = Disks.withFile();
        Disks.grow(x, 1, 640);
        look(x, 1, 1, 1, 640, 10, 0);
        x.fill(1, 640, 9, 1);
        look(x, 1, 1, 1, 641, 11, 0);
        Disks.addBlocks(x, 1, 5);
        x.fill(1, 961, 9, 39);
        look(x, 1, 1, 1, 1000, 16, 0);
        x.make(0, Check.name("d"), true);
        Disks.addEntries(x, 2, 1, 81);
        look(x, 2, 2, 1, 648, 11, 81);
    }

    /** "4: entries that are not free". */
    private static void entriesThatAreNotFree() {
        LogFs x = Disks.withFile();
        Disks.addEntries(x, 0, 1, 124);
        look(x, 0, 2, 1, 1000, 16, 125);
        x.unlink(0, Check.name("f"));
        look(x, 0, 2, 1, 1000, 16, 124);
        for (int i = 1; i <= 123; i++) {
            x.unlink(0, Check.name("e" + i));
        }
        look(x, 0, 2, 1, 1000, 16, 1);
        x.unlink(0, Check.name("e124"));
        look(x, 0, 2, 1, 1000, 16, 0);
    }

    /** "(0 of a file)". */
    private static void noEntriesOfAFile() {
        LogFs x = Disks.withFile();
        x.fill(1, 0, 9, 64);
        Check.is("a file whose bytes look like entries", x.look(1, 4), 0);
    }

    /** "IndexOutOfBoundsException if there is no such inode". */
    private static void noSuchInode() {
        LogFs x = Disks.withFile();
        for (int inode : NO_INODE) {
            for (int what = 0; what <= 4; what++) {
                int it = what;
                Check.outside("look(" + inode + ", " + what + ")", () -> x.look(inode, it));
            }
        }
    }

    /** "or what." */
    private static void noSuchWhat() {
        LogFs x = Disks.withFile();
        int[] none = {-1, 5, 6, 8, 1000, Integer.MIN_VALUE, Integer.MAX_VALUE};
        for (int what : none) {
            Check.outside("look(0, " + what + ")", () -> x.look(0, what));
            Check.outside("look(1, " + what + ")", () -> x.look(1, what));
            Check.outside("look(30, " + what + ")", () -> x.look(30, what));
        }
    }

    /** "IllegalStateException if the power is off". */
    private static void thePowerIsOff() {
        LogFs x = Disks.withoutPower();
        Check.off("look", () -> x.look(0, 0));
        Check.off("look of none", () -> x.look(-1, -1));
    }
}
