/** Promise 15. */
public final class MemoryTest {
    public static void main(String[] args) {
        asTheCallsChangeIt();
        theFirstAndTheLastByte();
        bytesAreFrom0To255();
        noSuchBlock();
        noSuchByte();
        thePowerIsOff();
        Check.end();
    }

    /** "Byte k of a block in memory." */
    private static void asTheCallsChangeIt() {
        LogFs x = Disks.withFile();
        x.fill(1, 0, 255, 64);
        Check.memory("not yet written", x, 27, 0, 255);
        Check.memory("not yet written", x, 27, 63, 255);
        Check.memory("not yet written", x, 25, 3, 15);
        x.mount();
        Check.memory("as the disk", x, 27, 0, 0);
        Check.memory("as the disk", x, 25, 3, 7);
        x.fill(1, 0, 254, 64);
        x.sync();
        Check.memory("written", x, 27, 0, 254);
    }

    /** "BLOCKS 0 .. 127 of 64 bytes". */
    private static void theFirstAndTheLastByte() {
        LogFs x = Disks.withFreeBlocks(1);
        x.fill(8, 0, 99, 64);
        Check.memory("the first byte", x, 0, 0, 0);
        Check.memory("the last byte", x, 127, 63, 99);
        Check.memory("the last block", x, 127, 0, 99);
    }

    private static void bytesAreFrom0To255() {
        LogFs x = Disks.withFile();
        int[] values = {0, 127, 128, 255};
        for (int value : values) {
            x.fill(1, 0, value, 1);
            Check.memory("the byte", x, 27, 0, value);
        }
    }

    /** "IndexOutOfBoundsException if there is none such." */
    private static void noSuchBlock() {
        LogFs x = Disks.withFile();
        int[] none = {-1, 128, 129, 1000, Integer.MIN_VALUE, Integer.MAX_VALUE};
        for (int block : none) {
            Check.outside("memory(" + block + ", 0)", () -> x.memory(block, 0));
            Check.outside("memory(" + block + ", 63)", () -> x.memory(block, 63));
        }
    }

    /** "IndexOutOfBoundsException if there is none such." */
    private static void noSuchByte() {
        LogFs x = Disks.withFile();
        int[] none = {-1, 64, 65, 1000, Integer.MIN_VALUE, Integer.MAX_VALUE};
        for (int k : none) {
            Check.outside("memory(0, " + k + ")", () -> x.memory(0, k));
            Check.outside("memory(1, " + k + ")", () -> x.memory(1, k));
            Check.outside("memory(127, " + k + ")", () -> x.memory(127, k));
        }
    }

    /** "IllegalStateException if the power is off". */
    private static void thePowerIsOff() {
        LogFs x = Disks.withoutPower();
        Check.off("memory", () -> x.memory(0, 0));
        Check.off("memory of none", () -> x.memory(-1, -1));
        Check.off("memory of none", () -> x.memory(128, 0));
        Check.off("memory of none", () -> x.memory(0, 64));
    }
}
