/** Terms, ENTRIES: each sentence that names an edge has a method, which begins with it. */
public final class EntriesTest {
    public static void main(String[] args) {
        anEntryBeginsWithAnInodeAndOne();
        zerosAreBehindAName();
        aFreeEntryIsAllZero();
        aNewEntryTakesTheFirstFreePlace();
        aNewEntryTakesAFreePlaceOfALaterBlock();
        aNewEntryTakesAFreePlaceByWayOfTheIndirectBlock();
        aNewEntryComesBehindTheLastOne();
        theDirectoryStaysAsLongAsItIs();
        theDirectoryStaysAsLongWithoutAnyEntry();
        Check.end();
    }

    /** "byte 0 an inode and 1". */
    private static void anEntryBeginsWithAnInodeAndOne() {
        LogFs x = new LogFs();
        for (int inode = 1; inode <= 31; inode++) {
            x.make(0, Check.name("n" + inode), inode % 2 == 0);
        }
        for (int inode = 1; inode <= 31; inode++) {
            Check.is("the entry of " + inode, x.read(0, 8 * inode - 8), inode + 1);
            Check.is("find " + inode, x.find(0, Check.name("n" + inode)), inode);
        }
        Check.yes("link the last inode", x.link(2, Check.name("l"), 31));
        Check.is("its entry", x.read(2, 0), 32);
    }

    /** "1 to 7 a NAME of 1 to 7 characters (33 .. 126), 0 behind it." */
    private static void zerosAreBehindAName() {
        String all = "!aZ0~}\"";
        for (int length = 1; length <= 7; length++) {
            LogFs x = new LogFs();
            x.make(0, Check.name(all.substring(0, length)), false);
            Check.is("byte 0", x.read(0, 0), 2);
            for (int k = 1; k <= 7; k++) {
                Check.is("byte " + k + " of a name of " + length, x.read(0, k), k <= length ? all.charAt(k - 1) : 0);
            }
            Check.is("size", x.look(0, 2), 8);
        }
    }

    /** "or 0 (then all eight are 0)"; "One that goes becomes free". */
    private static void aFreeEntryIsAllZero() {
        LogFs x = new LogFs();
        x.make(0, Check.name("1234567"), false);
        x.make(0, Check.name("abcdefg"), true);
        x.make(0, Check.name("ABCDEFG"), false);
        x.unlink(0, Check.name("abcdefg"));
        Check.memory("the entries", x, 26, 0, 2, '1', '2', '3', '4', '5', '6', '7', 0, 0, 0, 0, 0, 0, 0, 0, 4, 'A');
        x.link(0, Check.name("x"), 1);
        Check.memory("what takes its place", x, 26, 8, 2, 'x', 0, 0, 0, 0, 0, 0, 4);
    }

    /** "A new entry comes in place of the first free one". */
    private static void aNewEntryTakesTheFirstFreePlace() {
        LogFs x = Disks.withFile();
        Disks.addEntries(x, 0, 1, 6);
        x.unlink(0, Check.name("e6"));
        x.unlink(0, Check.name("e3"));
        x.unlink(0, Check.name("f"));
        Check.yes("link", x.link(0, Check.name("a"), 1));
        Check.is("in place of the first one", x.read(0, 1), 'a');
        Check.is("make", x.make(0, Check.name("b"), true), 2);
        Check.is("in place of the fourth", x.read(0, 25), 'b');
        Check.yes("link", x.link(0, Check.name("c"), 1));
        Check.is("in place of the last one", x.read(0, 49), 'c');
        Check.is("as long as it was", x.look(0, 2), 56);
        Check.is("entries", x.look(0, 4), 7);
    }

    /** "A new entry comes in place of the first free one". */
    private static void aNewEntryTakesAFreePlaceOfALaterBlock() {
        LogFs x = Disks.withFile();
        Disks.addEntries(x, 0, 1, 17);
        x.unlink(0, Check.name("e16"));
        x.unlink(0, Check.name("e8"));
        x.sync();
        x.link(0, Check.name("a"), 1);
        Check.pending("the second block", x, 17, 27);
        Check.is("the ninth entry", x.read(0, 65), 'a');
        x.link(0, Check.name("b"), 1);
        Check.pending("the third block", x, 17, 27, 28);
        Check.is("the seventeenth entry", x.read(0, 129), 'b');
        Check.is("as long as it was", x.look(0, 2), 144);
    }

    /** "A new entry comes in place of the first free one". */
    private static void aNewEntryTakesAFreePlaceByWayOfTheIndirectBlock() {
        LogFs x = Disks.withFile();
        Disks.addEntries(x, 0, 1, 124);
        x.unlink(0, Check.name("e124"));
        x.unlink(0, Check.name("e80"));
        x.sync();
        Check.is("make", x.make(0, Check.name("a"), false), 2);
        Check.pending("the eleventh block", x, 17, 37);
        Check.is("the 81st entry", x.read(0, 641), 'a');
        Check.is("find", x.find(0, Check.name("a")), 2);
        Check.is("make", x.make(0, Check.name("b"), false), 3);
        Check.is("the 125th entry", x.read(0, 993), 'b');
        Check.is("no more", x.make(0, Check.name("c"), false), LogFs.NONE);
    }

    /** "else behind the last one." */
    private static void aNewEntryComesBehindTheLastOne() {
        LogFs x = new LogFs();
        for (int i = 1; i <= 9; i++) {
            x.make(0, Check.name("n" + i), false);
            Check.is("size", x.look(0, 2), 8 * i);
            Check.is("its name", x.read(0, 8 * i - 6), '0' + i);
        }
        Check.memory("the ninth is in the second block", x, 27, 0, 10, 'n', '9', 0);
    }

    /** "the directory stays as long as it is." */
    private static void theDirectoryStaysAsLongAsItIs() {
        LogFs x = Disks.withFile();
        Disks.addEntries(x, 0, 1, 8);
        x.sync();
        Check.yes("unlink the last one", x.unlink(0, Check.name("e8")));
        Check.is("size", x.look(0, 2), 72);
        Check.is("blocks", x.look(0, 3), 2);
        Check.is("free blocks", x.count(1), 100);
        Check.pending("the entry and the file alone", x, 27, 17);
        Check.is("the free one can be read", x.read(0, 64), 0);
    }

    /** "the directory stays as long as it is." */
    private static void theDirectoryStaysAsLongWithoutAnyEntry() {
        LogFs x = new LogFs();
        x.make(0, Check.name("a"), false);
        x.make(0, Check.name("b"), true);
        x.unlink(0, Check.name("a"));
        x.unlink(0, Check.name("b"));
        Check.is("entries", x.look(0, 4), 0);
        Check.is("size", x.look(0, 2), 16);
        Check.is("blocks", x.look(0, 3), 1);
        Check.is("make", x.make(0, Check.name("c"), false), 1);
        Check.is("the first place", x.read(0, 1), 'c');
        Check.is("size", x.look(0, 2), 16);
    }
}
