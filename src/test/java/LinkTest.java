/** Promise 3. */
public final class LinkTest {
    public static void main(String[] args) {
        changesInOrder();
        refusesWrongArguments();
        mostLinks();
        fullDirectory();
        noFreeBlocks();
        commitsAhead();
        powerIsOff();
        Check.end();
    }

    private static void changesInOrder() {
        LogFs x = Disks.withFile();
        x.make(0, Check.name("d"), true);
        for (int i = 3; i <= 5; i++) {
            x.make(0, Check.name("n" + i), false);
        }
        x.sync();
        Check.yes("link", x.link(0, Check.name("g"), 5));
        Check.pending("inode, entry, directory", x, 18, 26, 17);
        Check.is("links", x.look(5, 1), 2);
        Check.memory("the entry", x, 26, 40, 6, 'g', 0, 0, 0, 0, 0, 0);
        x.sync();
        Check.yes("link into d", x.link(2, Check.name("f"), 1));
        Check.pending("with a block for it", x, 17, 25, 27);
        Check.is("find", x.find(2, Check.name("f")), 1);
        x.unlink(0, Check.name("n3"));
        x.sync();
        Check.yes("link", x.link(0, Check.name("h"), 4));
        Check.pending("in place of a free entry", x, 18, 26);
        Check.memory("the entry", x, 26, 16, 5, 'h', 0);
    }

    private static void refusesWrongArguments() {
        LogFs x = Disks.withFile();
        x.make(0, Check.name("d"), true);
        x.sync();
        int[] noFile = {-1, 0, 2, 3, 31, 32, 36, 1000, Integer.MIN_VALUE, Integer.MAX_VALUE};
        for (int inode : noFile) {
            Check.no("link of " + inode, x.link(0, Check.name("a"), inode));
        }
        int[] noDirectory = {-1, 1, 3, 31, 32, 36, 1000, Integer.MIN_VALUE, Integer.MAX_VALUE};
        for (int directory : noDirectory) {
            Check.no("link in " + directory, x.link(directory, Check.name("a"), 1));
        }
        long[] noName = {0L, 1L, -1L, Check.name("12345678"), Check.name("a\u0000b"), Check.name("a b")};
        for (long name : noName) {
            Check.no("link as " + name, x.link(0, name, 1));
        }
        Check.no("a taken name", x.link(0, Check.name("d"), 1));
        Check.no("its own name", x.link(0, Check.name("f"), 1));
        Check.pending("nothing changed", x);
        Check.is("links", x.look(1, 1), 1);
    }

    private static void mostLinks() {
        LogFs x = Disks.withFile();
        x.make(0, Check.name("d"), true);
        for (int i = 2; i <= 100; i++) {
            x.link(0, Check.name("n" + i), 1);
        }
        for (int i = 101; i <= 199; i++) {
            x.link(2, Check.name("n" + i), 1);
        }
        Check.is("links", x.look(1, 1), 199);
        Check.yes("the last link", x.link(2, Check.name("last"), 1));
        Check.is("links", x.look(1, 1), 200);
        x.sync();
        Check.no("one too many", x.link(2, Check.name("more"), 1));
        Check.pending("nothing changed", x);
        x.unlink(0, Check.name("f"));
        Check.is("links", x.look(1, 1), 199);
        Check.yes("one again", x.link(2, Check.name("more"), 1));
    }

    private static void fullDirectory() {
        LogFs x = Disks.withFile();
        for (int i = 2; i <= 125; i++) {
            x.link(0, Check.name("n" + i), 1);
        }
        x.sync();
        Check.no("too long", x.link(0, Check.name("x"), 1));
        Check.pending("nothing changed", x);
        Check.is("links", x.look(1, 1), 125);
        x.unlink(0, Check.name("n77"));
        Check.yes("in place of a free entry", x.link(0, Check.name("x"), 1));
        Check.is("find", x.find(0, Check.name("x")), 1);
    }

    private static void noFreeBlocks() {
        LogFs x = Disks.withFreeBlocks(0);
        Check.no("link", x.link(0, Check.name("x"), 1));
        Check.pending("nothing changed", x);
        x.unlink(0, Check.name("f8"));
        Check.yes("no block is needed", x.link(0, Check.name("x"), 1));
        LogFs y = Disks.withFile();
        for (int i = 2; i <= 80; i++) {
            y.link(0, Check.name("n" + i), 1);
        }
        for (int inode = 2; inode <= 6; inode++) {
            y.unlink(0, Check.name("n" + inode));
            y.make(0, Check.name("m" + inode), false);
        }
        for (int inode = 2; inode <= 6; inode++) {
            Disks.addBlocks(y, inode, 15);
        }
        Disks.addBlocks(y, 1, 10);
        y.fill(2, 960, 1, 40);
        Check.is("one block is left", y.count(1), 1);
        y.sync();
        Check.no("an indirect block is needed too", y.link(0, Check.name("x"), 2));
        Check.pending("nothing changed", y);
        y.truncate(2);
        Check.yes("now it is there", y.link(0, Check.name("x"), 2));
    }

    private static void commitsAhead() {
        LogFs x = Disks.withFile();
        Disks.addBlocks(x, 1, 9);
        Check.is("pending", x.count(0), 11);
        Check.no("a refused one", x.link(0, Check.name("f"), 1));
        Check.is("no commit for it", x.count(4), 1);
        Check.yes("link", x.link(0, Check.name("g"), 1));
        Check.is("a commit ahead", x.count(4), 2);
        Check.pending("what came behind it", x, 17, 26);
        LogFs y = Disks.withFile();
        Disks.addBlocks(y, 1, 9);
        y.failAfter(23);
        Check.powerFails("link", () -> y.link(0, Check.name("g"), 1));
        Check.is("mount", y.mount(), 11);
        Check.is("what was ahead is whole", y.look(1, 2), 576);
        Check.is("the link is not", y.look(1, 1), 1);
    }

    private static void powerIsOff() {
        LogFs x = Disks.withoutPower();
        Check.off("link", () -> x.link(0, Check.name("a"), 1));
        Check.off("link of none", () -> x.link(-1, 0L, -1));
    }
}
