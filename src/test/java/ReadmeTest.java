/** The example of README.md, call by call, with the answers that it tells. */
public final class ReadmeTest {
    public static void main(String[] args) {
        LogFs fs = new LogFs();
        long name = 0x6162000000000000L;
        Check.is("the name", Check.name("ab"), name);
        int file = fs.make(0, name, false);
        Check.is("make", file, 1);
        Check.is("write", fs.write(file, 0, 0x4869000000000000L, 2), 2);
        Check.is("the first byte", fs.read(file, 0), 'H');
        Check.is("the second byte", fs.read(file, 1), 'i');
        Check.is("pending blocks", fs.count(0), 4);
        Check.is("sync", fs.sync(), 10);
        Check.is("fill", fs.fill(file, 2, '!', 3), 5);
        Check.is("pending blocks", fs.count(0), 2);
        Check.yes("failAfter", fs.failAfter(3));
        Check.powerFails("sync", fs::sync);
        Check.is("three writes more", fs.count(3), 13);
        Check.off("read", () -> fs.read(file, 4));
        Check.is("mount", fs.mount(), 2);
        Check.is("read", fs.read(file, 4), '!');
        Check.end();
    }
}
