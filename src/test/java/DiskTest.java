/** Promise 14. */
public final class DiskTest {
    public static void main(String[] args) {
        asItIsWritten();
        theFirstAndTheLastByte();
        bytesAreFrom0To255();
        noSuchBlock();
        noSuchByte();
        withThePowerOff();
        Check.end();
    }

    /** "Byte k of a block of the disk, as it is written." */
    private static void asItIsWritten() {
        LogFs x = Disks.withFile();
        x.fill(1, 0, 255, 64);
        Check.disk("not yet written", x, 27, 0, 0);
        Check.disk("not yet written", x, 25, 3, 7);
        x.sync();
        Check.disk("written", x, 27, 0, 255);
        Check.disk("written", x, 25, 3, 15);
        x.fill(1, 0, 1, 1);
        Check.disk("not yet written again", x, 27, 0, 255);
        x.mount();
        Check.disk("a mount writes nothing here", x, 27, 0, 255);
    }

    /** "BLOCKS 0 .. 127 of 64 bytes". */
    private static void theFirstAndTheLastByte() {
        LogFs x = Disks.withFreeBlocks(1);
        x.fill(8, 0, 99, 64);
        x.sync();
        Check.disk("the first byte", x, 0, 0, 0);
        Check.disk("the last byte", x, 127, 63, 99);
        Check.disk("the last block", x, 127, 0, 99);
    }

    private static void bytesAreFrom0To255() {
        LogFs x = Disks.withFile();
        int[] values = {0, 127, 128, 255};
        for (int value : values) {
            x.fill(1, 0, value, 1);
            x.sync();
            Check.disk("the byte", x, 27, 0, value);
        }
    }

    /** "IndexOutOfBoundsException if there is none such." */
    private static void noSuchBlock() {
        LogFs x = Disks.withFile();
        int[] none = {-1, 128, 129, 1000, Integer.MIN_VALUE, Integer.MAX_VALUE};
        for (int block : none) {
            Check.outside("disk(" + block + ", 0)", () -> x.disk(block, 0));
            Check.outside("disk(" + block + ", 63)", () -> x.disk(block, 63));
        }
    }

    /** "IndexOutOfBoundsException if there is none such." */
    private static void noSuchByte() {
        LogFs x = Disks.withFile();
        int[] none = {-1, 64, 65, 1000, Integer.MIN_VALUE, Integer.MAX_VALUE};
        for (int k : none) {
            Check.outside("disk(0, " + k + ")", () -> x.disk(0, k));
            Check.outside("disk(1, " + k + ")", () -> x.disk(1, k));
            Check.outside("disk(127, " + k + ")", () -> x.disk(127, k));
        }
    }

    /** It has no exception for that. */
    private static void withThePowerOff() {
        LogFs x = Disks.withoutPower();
        Check.disk("a block", x, 26, 0, 2, 'f');
        Check.disk("the last byte", x, 127, 63, 0);
        Check.outside("no such block", () -> x.disk(128, 0));
        Check.outside("no such byte", () -> x.disk(0, 64));
    }
}
