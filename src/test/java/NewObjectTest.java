/** Promise 1. */
public final class NewObjectTest {
    public static void main(String[] args) {
        for (int block = 0; block < 128; block++) {
            LogFs x = new LogFs();
            for (int k = 0; k < 64; k++) {
                Check.is("disk(" + block + ", " + k + ")", x.disk(block, k), first(block, k));
                Check.is("memory(" + block + ", " + k + ")", x.memory(block, k), first(block, k));
            }
        }
        LogFs x = new LogFs();
        int[] counts = {0, 102, 31, 0, 0, 0, -1, -1, -1};
        for (int what = 0; what < counts.length; what++) {
            Check.is("count(" + what + ")", x.count(what), counts[what]);
        }
        Check.is("mount()", x.mount(), 0);
        Check.is("count(3)", x.count(3), 0);
        twoObjectsAreApart();
        Check.is("NONE", LogFs.NONE, -1);
        Check.end();
    }

    private static int first(int block, int k) {
        if (block == 17) {
            return k == 0 ? 2 : k == 1 ? 1 : 0;
        }
        if (block == 25) {
            return k < 3 ? 255 : k == 3 ? 3 : 0;
        }
        return 0;
    }

    private static void twoObjectsAreApart() {
        LogFs x = new LogFs();
        LogFs y = new LogFs();
        x.make(0, Check.name("a"), false);
        x.sync();
        Check.is("find in the other", y.find(0, Check.name("a")), LogFs.NONE);
        Check.is("writes of the other", y.count(3), 0);
    }
}
