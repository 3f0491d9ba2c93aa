/** Promise 16. */
public final class CountTest {
    public static void main(String[] args) {
        LogFs x = new LogFs();
        x.make(0, Check.name("f"), false);
        counts(x, 3, 101, 30, 0, 0, 0, -1, -1, 17, 25, 26, -1);
        x.fill(1, 0, 1, 64);
        counts(x, 4, 100, 30, 0, 0, 0, -1, -1, 17, 25, 26, 27, -1);
        x.sync();
        counts(x, 0, 100, 30, 10, 1, 0, -1, -1, -1);
        x.fill(1, 0, 2, 64);
        x.make(0, Check.name("g"), true);
        counts(x, 3, 100, 29, 10, 1, 0, -1, -1, 27, 17, 26, -1);
        x.unlink(0, Check.name("f"));
        counts(x, 4, 101, 30, 10, 1, 0, -1, -1, 27, 17, 26, 25, -1);
        x.failAfter(3);
        Check.powerFails("sync", x::sync);
        counts(x, -1, -1, -1, 13, 2, 1, -1, -1, -1, -1, -1, -1, -1);
        x.mount();
        counts(x, 0, 100, 30, 13, 2, 0, -1, -1, -1);
        int[] none = {-1, -8, 6, 7, 8, 23, 1000, Integer.MIN_VALUE, Integer.MAX_VALUE};
        for (int what : none) {
            Check.is("count(" + what + ")", x.count(what), LogFs.NONE);
        }
        Check.end();
    }

    private static void counts(LogFs x, int... due) {
        for (int what = 0; what < due.length; what++) {
            Check.is("count(" + what + ")", x.count(what), due[what]);
        }
    }
}
