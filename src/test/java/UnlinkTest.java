/** Promise 4. */
public final class UnlinkTest {
    public static void main(String[] args) {
        oneOfSeveralLinks();
        theLastLinkOfAnEmptyFile();
        theLastLinkOfALongFile();
        directories();
        refusesWrongArguments();
        commitsAhead();
        powerIsOff();
        Check.end();
    }

    private static void oneOfSeveralLinks() {
        LogFs x = Disks.withFile();
        x.write(1, 0, -1L, 3);
        x.link(0, Check.name("g"), 1);
        x.sync();
        Check.yes("unlink", x.unlink(0, Check.name("f")));
        Check.pending("entry, inode", x, 26, 17);
        Check.is("links", x.look(1, 1), 1);
        Check.is("size stays", x.look(1, 2), 3);
        Check.memory("the entry is free", x, 26, 0, 0, 0, 0, 0, 0, 0, 0, 0, 2, 'g');
        Check.is("the directory stays as long", x.look(0, 2), 16);
        Check.is("entries", x.look(0, 4), 1);
        Check.is("find", x.find(0, Check.name("f")), LogFs.NONE);
        Check.is("find the other", x.find(0, Check.name("g")), 1);
        Check.no("again", x.unlink(0, Check.name("f")));
    }

    private static void theLastLinkOfAnEmptyFile() {
        LogFs x = Disks.withFile();
        for (int i = 2; i <= 4; i++) {
            x.make(0, Check.name("n" + i), false);
        }
        x.sync();
        Check.yes("unlink", x.unlink(0, Check.name("n4")));
        Check.pending("entry, inode, not the map", x, 26, 18);
        Check.memory("the inode is all 0", x, 18, 0, 0, 0, 0, 0, 0, 0);
        Check.is("free inodes", x.count(2), 28);
        Check.is("free blocks", x.count(1), 101);
    }

    private static void theLastLinkOfALongFile() {
        LogFs x = Disks.withFile();
        Disks.addBlocks(x, 1, 15);
        x.fill(1, 960, 9, 40);
        Check.is("free blocks", x.count(1), 84);
        x.sync();
        Check.yes("unlink", x.unlink(0, Check.name("f")));
        Check.pending("entry, map, inode", x, 26, 25, 17);
        Check.is("all its blocks are free", x.count(1), 101);
        Check.memory("the map", x, 25, 2, 255, 7, 0, 0, 0);
        Check.memory("the inode is all 0", x, 17, 16, 0, 0, 0, 0, 0, 0, 0, 0, 0, 0, 0, 0, 0, 0, 0, 0);
        Check.memory("what was in its block stays", x, 27, 0, 7, 7, 7);
        Check.memory("what was in its indirect block stays", x, 37, 0, 38, 39);
        x.make(0, Check.name("g"), false);
        x.fill(1, 0, 5, 1);
        Check.memory("a block that is taken becomes 0", x, 27, 0, 5, 0, 0);
    }

    private static void directories() {
        LogFs x = Disks.withFile();
        x.make(0, Check.name("d"), true);
        x.make(2, Check.name("a"), false);
        x.make(2, Check.name("b"), true);
        x.sync();
        Check.no("a directory with entries", x.unlink(0, Check.name("d")));
        x.unlink(2, Check.name("a"));
        Check.no("a directory with an entry", x.unlink(0, Check.name("d")));
        Check.yes("an empty one without a block", x.unlink(2, Check.name("b")));
        x.sync();
        Check.is("size stays", x.look(2, 2), 16);
        Check.yes("an empty one with a block", x.unlink(0, Check.name("d")));
        Check.pending("entry, map, inode", x, 26, 25, 17);
        Check.is("type", x.look(2, 0), 0);
        Check.is("free blocks", x.count(1), 101);
        Check.is("make in it", x.make(2, Check.name("a"), false), LogFs.NONE);
    }

    private static void refusesWrongArguments() {
        LogFs x = Disks.withFile();
        int[] noDirectory = {-1, 1, 2, 31, 32, 36, 1000, Integer.MIN_VALUE, Integer.MAX_VALUE};
        for (int directory : noDirectory) {
            Check.no("unlink in " + directory, x.unlink(directory, Check.name("f")));
        }
        x.link(0, Check.name("1234567"), 1);
        x.make(0, Check.name("z"), false);
        x.unlink(0, Check.name("z"));
        x.sync();
        long[] none = {0L, 1L, -1L, Check.name("g"), Check.name("ff"), Check.name("f\u0000f"), Check.name("f") | 1L,
            Check.name("12345678"), Check.name("1234567") | 1L, Check.name("123456"), Check.name("z")};
        for (long name : none) {
            Check.no("unlink " + name, x.unlink(0, name));
        }
        Check.pending("nothing changed", x);
    }

    private static void commitsAhead() {
        LogFs x = Disks.withFile();
        Disks.addBlocks(x, 1, 9);
        Check.no("a refused one", x.unlink(0, Check.name("g")));
        Check.is("no commit for it", x.count(4), 1);
        Check.yes("unlink", x.unlink(0, Check.name("f")));
        Check.is("a commit ahead", x.count(4), 2);
        Check.pending("what came behind it", x, 26, 25, 17);
        LogFs y = Disks.withFile();
        Disks.addBlocks(y, 1, 9);
        y.failAfter(0);
        Check.powerFails("unlink", () -> y.unlink(0, Check.name("f")));
        y.mount();
        Check.is("find", y.find(0, Check.name("f")), 1);
    }

    private static void powerIsOff() {
        LogFs x = Disks.withoutPower();
        Check.off("unlink", () -> x.unlink(0, Check.name("f")));
        Check.off("unlink none", () -> x.unlink(-1, 0L));
    }
}
