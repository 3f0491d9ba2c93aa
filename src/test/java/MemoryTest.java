/** Promise 15. */
public final class MemoryTest {
    public static void main(String[] args) {
        LogFs x = Disks.withFile();
        x.fill(1, 0, 255, 64);
        Check.memory("not yet written", x, 27, 0, 255);
        Check.memory("not yet written", x, 27, 63, 255);
        Check.memory("not yet written", x, 25, 3, 15);
        Check.memory("the last byte", x, 127, 63, 0);
        x.mount();
        Check.memory("as the disk", x, 27, 0, 0);
        Check.memory("as the disk", x, 25, 3, 7);
        int[] none = {-1, 128, 1000, Integer.MIN_VALUE, Integer.MAX_VALUE};
        for (int block : none) {
            Check.outside("memory(" + block + ", 0)", () -> x.memory(block, 0));
        }
        int[] noByte = {-1, 64, 1000, Integer.MIN_VALUE, Integer.MAX_VALUE};
        for (int k : noByte) {
            Check.outside("memory(0, " + k + ")", () -> x.memory(0, k));
            Check.outside("memory(127, " + k + ")", () -> x.memory(127, k));
        }
        LogFs off = Disks.withoutPower();
        Check.off("memory", () -> off.memory(0, 0));
        Check.off("memory of none", () -> off.memory(-1, -1));
        Check.off("memory of none", () -> off.memory(0, 64));
        Check.end();
    }
}
