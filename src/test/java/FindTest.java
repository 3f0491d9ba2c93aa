/** Promise 11. */
public final class FindTest {
    public static void main(String[] args) {
        LogFs x = Disks.withFile();
        x.make(0, Check.name("d"), true);
        x.make(2, Check.name("f"), false);
        x.make(2, Check.name("1234567"), true);
        x.make(0, Check.name("z"), false);
        x.unlink(0, Check.name("z"));
        Check.is("f", x.find(0, Check.name("f")), 1);
        Check.is("d", x.find(0, Check.name("d")), 2);
        Check.is("f of 2", x.find(2, Check.name("f")), 3);
        Check.is("seven characters", x.find(2, Check.name("1234567")), 4);
        x.link(4, Check.name("!"), 3);
        Check.is("a link", x.find(4, Check.name("!")), 3);
        long[] none = {0L, 1L, -1L, Check.name("g"), Check.name("ff"), Check.name("F"), Check.name("z"),
            Check.name("f\u0000f"), Check.name("f") | 1L, Check.name("\u0000f"), Check.name("123456")};
        for (long name : none) {
            Check.is("find " + name, x.find(0, name), LogFs.NONE);
        }
        Check.is("eight characters", x.find(2, Check.name("12345678")), LogFs.NONE);
        Check.is("six characters", x.find(2, Check.name("123456")), LogFs.NONE);
        int[] noDirectory = {-1, 1, 3, 5, 31, 32, 33, 36, 1000, Integer.MIN_VALUE, Integer.MAX_VALUE};
        for (int directory : noDirectory) {
            Check.is("find in " + directory, x.find(directory, Check.name("f")), LogFs.NONE);
        }
        inAFileThatLooksLikeADirectory();
        inALongDirectory();
        LogFs off = Disks.withoutPower();
        Check.off("find", () -> off.find(0, Check.name("f")));
        Check.off("find in none", () -> off.find(-1, 0L));
        Check.end();
    }

    private static void inAFileThatLooksLikeADirectory() {
        LogFs x = Disks.withFile();
        x.write(1, 0, 0x0261000000000000L, 8);
        Check.is("find in a file", x.find(1, Check.name("a")), LogFs.NONE);
    }

    private static void inALongDirectory() {
        LogFs x = Disks.withFile();
        for (int i = 2; i <= 124; i++) {
            x.link(0, Check.name("n" + i), 1);
        }
        x.make(0, Check.name("n125"), false);
        Check.is("the last one", x.find(0, Check.name("n125")), 2);
        Check.is("by way of the indirect block", x.find(0, Check.name("n81")), 1);
    }
}
