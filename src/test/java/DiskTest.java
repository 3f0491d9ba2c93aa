/** Promise 14. */
public final class DiskTest {
    public static void main(String[] args) {
        LogFs x = Disks.withFile();
        x.fill(1, 0, 255, 64);
        Check.disk("not yet written", x, 27, 0, 0);
        Check.disk("not yet written", x, 25, 3, 7);
        x.sync();
        Check.disk("written", x, 27, 0, 255);
        Check.disk("written", x, 27, 63, 255);
        Check.disk("written", x, 25, 3, 15);
        outside(x);
        LogFs off = Disks.withoutPower();
        Check.disk("with the power off", off, 26, 0, 2, 'f');
        Check.disk("with the power off", off, 127, 63, 0);
        outside(off);
        Check.end();
    }

    private static void outside(LogFs x) {
        int[] none = {-1, 128, 1000, Integer.MIN_VALUE, Integer.MAX_VALUE};
        for (int block : none) {
            Check.outside("disk(" + block + ", 0)", () -> x.disk(block, 0));
        }
        int[] noByte = {-1, 64, 1000, Integer.MIN_VALUE, Integer.MAX_VALUE};
        for (int k : noByte) {
            Check.outside("disk(0, " + k + ")", () -> x.disk(0, k));
            Check.outside("disk(127, " + k + ")", () -> x.disk(127, k));
        }
    }
}
