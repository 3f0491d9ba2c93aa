/** Promise 12. */
public final class ReadTest {
    public static void main(String[] args) {
        LogFs x = Disks.withFile();
        for (int i = 0; i < 15; i++) {
            x.fill(1, 64 * i, 200 + i, 64);
        }
        x.fill(1, 960, 255, 40);
        for (int i = 0; i < 15; i++) {
            Check.is("the first of block " + i, x.read(1, 64 * i), 200 + i);
            Check.is("the last of block " + i, x.read(1, 64 * i + 63), 200 + i);
        }
        Check.is("the last byte", x.read(1, 999), 255);
        Check.outside("behind it", () -> x.read(1, 1000));
        Check.is("a directory", x.read(0, 0), 2);
        Check.is("a directory", x.read(0, 1), 'f');
        Check.is("a directory", x.read(0, 7), 0);
        Check.outside("behind a directory", () -> x.read(0, 8));
        x.make(0, Check.name("g"), false);
        x.unlink(0, Check.name("g"));
        Check.is("a free entry", x.read(0, 8), 0);
        x.make(0, Check.name("e"), false);
        int[] noAt = {-1, 1000, Integer.MIN_VALUE, Integer.MAX_VALUE};
        for (int at : noAt) {
            Check.outside("read at " + at, () -> x.read(1, at));
        }
        int[] none = {-1, 2, 3, 31, 32, 33, 36, 1000, Integer.MIN_VALUE, Integer.MAX_VALUE};
        for (int inode : none) {
            Check.outside("read of " + inode, () -> x.read(inode, 0));
        }
        LogFs off = Disks.withoutPower();
        Check.off("read", () -> off.read(1, 0));
        Check.off("read of none", () -> off.read(-1, -1));
        Check.end();
    }
}
