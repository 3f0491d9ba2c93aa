/** Promise 11: each cause of a NONE, and the exception, has a method of its own. */
public final class FindTest {
    private static final int[] NO_INODE = {-1, 32, 33, 36, 127, 128, 1000, Integer.MIN_VALUE, Integer.MAX_VALUE};

    public static void main(String[] args) {
        ordinary();
        inALongDirectory();
        noSuchDirectory();
        inAFileThatLooksLikeADirectory();
        noSuchEntry();
        anEntryThatIsGone();
        noName();
        thePowerIsOff();
        Check.end();
    }

    /** "The inode of a name in a directory". */
    private static void ordinary() {
        LogFs x = Disks.withFile();
        x.make(0, Check.name("d"), true);
        x.make(2, Check.name("f"), false);
        x.make(2, Check.name("1234567"), true);
        Check.is("f", x.find(0, Check.name("f")), 1);
        Check.is("d", x.find(0, Check.name("d")), 2);
        Check.is("f of 2", x.find(2, Check.name("f")), 3);
        Check.is("seven characters", x.find(2, Check.name("1234567")), 4);
        x.link(4, Check.name("!"), 3);
        Check.is("a link", x.find(4, Check.name("!")), 3);
    }

    private static void inALongDirectory() {
        LogFs x = Disks.withFile();
        Disks.addEntries(x, 0, 1, 123);
        x.make(0, Check.name("last"), false);
        Check.is("the first one", x.find(0, Check.name("f")), 1);
        Check.is("the last of ten blocks", x.find(0, Check.name("e79")), 1);
        Check.is("the first by way of the indirect block", x.find(0, Check.name("e80")), 1);
        Check.is("the last one", x.find(0, Check.name("last")), 2);
        Check.is("none", x.find(0, Check.name("e124")), LogFs.NONE);
    }

    /** "NONE if there is no such directory". */
    private static void noSuchDirectory() {
        LogFs x = Disks.withFile();
        for (int directory : NO_INODE) {
            Check.is("find in " + directory, x.find(directory, Check.name("f")), LogFs.NONE);
        }
        Check.is("find in a file", x.find(1, Check.name("f")), LogFs.NONE);
        Check.is("find in a free inode", x.find(2, Check.name("f")), LogFs.NONE);
        Check.is("find in the last inode", x.find(31, Check.name("f")), LogFs.NONE);
    }

    private static void inAFileThatLooksLikeADirectory() {
        LogFs x = Disks.withFile();
        x.write(1, 0, 0x0261000000000000L, 8);
        Check.is("find in a file", x.find(1, Check.name("a")), LogFs.NONE);
    }

    /** "or entry." */
    private static void noSuchEntry() {
        LogFs x = Disks.withFile();
        x.make(0, Check.name("d"), true);
        x.make(2, Check.name("in"), false);
        x.link(0, Check.name("1234567"), 1);
        String[] none = {"g", "ff", "F", "in", "123456", "234567", "7"};
        for (String name : none) {
            Check.is("find " + name, x.find(0, Check.name(name)), LogFs.NONE);
        }
        Check.is("a name of the root in d", x.find(2, Check.name("f")), LogFs.NONE);
        Check.is("in an empty directory", new LogFs().find(0, Check.name("f")), LogFs.NONE);
    }

    /** "or entry." */
    private static void anEntryThatIsGone() {
        LogFs x = Disks.withFile();
        x.unlink(0, Check.name("f"));
        Check.is("find", x.find(0, Check.name("f")), LogFs.NONE);
        Check.is("no name is not a free entry's", x.find(0, 0L), LogFs.NONE);
        x.mount();
        Check.is("it was not committed", x.find(0, Check.name("f")), 1);
    }

    private static void noName() {
        LogFs x = Disks.withFile();
        x.link(0, Check.name("1234567"), 1);
        long[] none = {0L, 1L, -1L, Check.name("f\u0000f"), Check.name("f") | 1L, Check.name("\u0000f"),
            Check.name("12345678"), Check.name("1234567") | 1L, Long.MIN_VALUE, Long.MAX_VALUE};
        for (long name : none) {
            Check.is("find " + name, x.find(0, name), LogFs.NONE);
        }
    }

    /** "IllegalStateException if the power is off." */
    private static void thePowerIsOff() {
        LogFs x = Disks.withoutPower();
        Check.off("find", () -> x.find(0, Check.name("f")));
        Check.off("find in none", () -> x.find(-1, 0L));
    }
}
