/** Promise 13. */
public final class LookTest {
    public static void main(String[] args) {
        LogFs x = Disks.withFile();
        look(x, 0, 2, 1, 8, 1, 1);
        look(x, 1, 1, 1, 0, 0, 0);
        look(x, 2, 0, 0, 0, 0, 0);
        look(x, 31, 0, 0, 0, 0, 0);
        x.fill(1, 0, 9, 64);
        look(x, 1, 1, 1, 64, 1, 0);
        x.link(0, Check.name("g"), 1);
        x.fill(1, 64, 9, 1);
        look(x, 1, 1, 2, 65, 2, 0);
        x.make(0, Check.name("d"), true);
        look(x, 2, 2, 1, 0, 0, 0);
        x.unlink(0, Check.name("f"));
        look(x, 0, 2, 1, 24, 1, 2);
        Disks.addBlocks(x, 1, 8);
        x.fill(1, 577, 9, 63);
        look(x, 1, 1, 1, 640, 10, 0);
        x.fill(1, 640, 9, 1);
        look(x, 1, 1, 1, 641, 11, 0);
        Disks.addBlocks(x, 1, 5);
        x.fill(1, 961, 9, 39);
        look(x, 1, 1, 1, 1000, 16, 0);
        for (int inode = 3; inode <= 31; inode++) {
            x.make(2, Check.name("n" + inode), true);
        }
        look(x, 31, 2, 1, 0, 0, 0);
        look(x, 2, 2, 1, 232, 4, 29);
        int[] none = {-1, 32, 33, 36, 1000, Integer.MIN_VALUE, Integer.MAX_VALUE};
        for (int inode : none) {
            Check.outside("look of " + inode, () -> x.look(inode, 0));
        }
        int[] noWhat = {-1, 5, 1000, Integer.MIN_VALUE, Integer.MAX_VALUE};
        for (int what : noWhat) {
            Check.outside("look at " + what, () -> x.look(0, what));
            Check.outside("look at " + what + " of a free one", () -> x.look(30, what));
        }
        LogFs off = Disks.withoutPower();
        Check.off("look", () -> off.look(0, 0));
        Check.off("look of none", () -> off.look(-1, -1));
        Check.end();
    }

    private static void look(LogFs x, int inode, int... due) {
        for (int what = 0; what < due.length; what++) {
            Check.is("look(" + inode + ", " + what + ")", x.look(inode, what), due[what]);
        }
    }
}
