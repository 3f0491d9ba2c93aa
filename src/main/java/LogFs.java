/** A file system over a disk of blocks with a log that is written ahead; README.md says how to use it. */
public final class LogFs {
    public static final int NONE = -1;

    private static final int BLOCKS = 128;
    private static final int BLOCK_BYTES = 64;
    private static final int HEAD = 1;
    private static final int FIRST_LOG = 2;
    private static final int LOG_BLOCKS = 15;
    private static final int FIRST_INODES = 17;
    private static final int MAP = 25;
    private static final int MAP_BYTES = 16;
    private static final int FIRST_CONTENT = 26;

    private static final int INODES = 32;
    private static final int INODES_IN_BLOCK = 4;
    private static final int INODE_BYTES = 16;
    private static final int TYPE = 0;
    private static final int LINKS = 1;
    private static final int SIZE = 2;
    private static final int DIRECT = 4;
    private static final int DIRECT_BLOCKS = 10;
    private static final int INDIRECT = 14;
    private static final int FILE = 1;
    private static final int DIRECTORY = 2;

    private static final int MOST_BYTES = 1000;
    private static final int MOST_LINKS = 200;
    private static final int MOST_NAME = 7;
    private static final int ENTRY_BYTES = 8;
    private static final int LONG_BYTES = 8;
    private static final int MOST_FILL = 64;
    // A call changes at most five blocks that were not pending, so ten and these fit the log.
    private static final int MOST_PENDING_AHEAD = 10;
    private static final int FIRST_PENDING_COUNT = 8;

    private final Disk onDisk;
    private final Memory inMemory;
    private final Volume volume;
    private int commits;

    public LogFs() {
        onDisk = new Disk();
        inMemory = new Memory();
        volume = new Volume(inMemory);
        commits = 0;
        inMemory.load(onDisk.blocks);
    }

    public int make(int directory, long name, boolean isDirectory)
            throws IllegalStateException, UnsupportedOperationException {
        requirePower();
        int inode = volume.leastFreeInode();
        if (inode == NONE || !volume.canEnter(directory, name)) {
            return NONE;
        }
        commitIfMany();
        volume.begin(inode, isDirectory ? DIRECTORY : FILE);
        volume.putLong(directory, volume.placeForEntry(directory), entryOf(inode, name), ENTRY_BYTES);
        return inode;
    }

    public boolean link(int directory, long name, int inode)
            throws IllegalStateException, UnsupportedOperationException {
        requirePower();
        if (!volume.isFile(inode) || volume.links(inode) >= MOST_LINKS || !volume.canEnter(directory, name)) {
            return false;
        }
        commitIfMany();
        volume.addLink(inode);
        volume.putLong(directory, volume.placeForEntry(directory), entryOf(inode, name), ENTRY_BYTES);
        return true;
    }

    public boolean unlink(int directory, long name) throws IllegalStateException, UnsupportedOperationException {
        requirePower();
        int at = volume.placeOf(directory, name);
        if (at == NONE) {
            return false;
        }
        int inode = volume.inodeAt(directory, at);
        if (volume.entries(inode) > 0) {
            return false;
        }
        commitIfMany();
        volume.putLong(directory, at, 0L, ENTRY_BYTES);
        volume.dropLink(inode);
        return true;
    }

    public int write(int inode, int at, long bytes, int n)
            throws IllegalStateException, UnsupportedOperationException {
        requirePower();
        if (n < 1 || n > LONG_BYTES || !volume.canPut(inode, at, n)) {
            return NONE;
        }
        commitIfMany();
        volume.putLong(inode, at, bytes, n);
        return volume.size(inode);
    }

    public int fill(int inode, int at, int value, int n)
            throws IllegalStateException, UnsupportedOperationException {
        requirePower();
        if (value < 0 || value > 255 || n < 1 || n > MOST_FILL || !volume.canPut(inode, at, n)) {
            return NONE;
        }
        commitIfMany();
        volume.putSame(inode, at, value, n);
        return volume.size(inode);
    }

    public boolean truncate(int inode) throws IllegalStateException, UnsupportedOperationException {
        requirePower();
        if (!volume.isFile(inode) || volume.size(inode) == 0) {
            return false;
        }
        commitIfMany();
        volume.empty(inode);
        return true;
    }

    public int sync() throws IllegalStateException, UnsupportedOperationException {
        requirePower();
        int before = onDisk.writes;
        commit();
        return onDisk.writes - before;
    }

    public boolean failAfter(int n) {
        if (n < 0) {
            return false;
        }
        onDisk.writesToFailure = n;
        return true;
    }

    public int mount() throws UnsupportedOperationException {
        onDisk.isOff = false;
        int n = onDisk.blocks.get(HEAD, 0);
        if (n > 0 && !onDisk.replayLog(n)) {
            throw new UnsupportedOperationException("the power failed");
        }
        inMemory.load(onDisk.blocks);
        return n;
    }

    public int find(int directory, long name) throws IllegalStateException {
        requirePower();
        int at = volume.placeOf(directory, name);
        return at == NONE ? NONE : volume.inodeAt(directory, at);
    }

    public int read(int inode, int at) throws IllegalStateException, IndexOutOfBoundsException {
        requirePower();
        if (at < 0 || at >= volume.size(inode)) {
            throw new IndexOutOfBoundsException("no such byte");
        }
        return volume.contentByte(inode, at);
    }

    public int look(int inode, int what) throws IllegalStateException, IndexOutOfBoundsException {
        requirePower();
        if (!isInode(inode)) {
            throw new IndexOutOfBoundsException("no such inode");
        }
        switch (what) {
            case 0:
                return volume.type(inode);
            case 1:
                return volume.links(inode);
            case 2:
                return volume.size(inode);
            case 3:
                return blocksFor(volume.size(inode));
            case 4:
                return volume.entries(inode);
            default:
                throw new IndexOutOfBoundsException("nothing such to look at");
        }
    }

    public int disk(int block, int k) throws IndexOutOfBoundsException {
        requireByte(block, k);
        return onDisk.blocks.get(block, k);
    }

    public int memory(int block, int k) throws IllegalStateException, IndexOutOfBoundsException {
        requirePower();
        requireByte(block, k);
        return inMemory.blocks.get(block, k);
    }

    public int count(int what) {
        switch (what) {
            case 3:
                return onDisk.writes;
            case 4:
                return commits;
            case 5:
                return onDisk.isOff ? 1 : 0;
            default:
                return onDisk.isOff ? NONE : countInMemory(what);
        }
    }

    private int countInMemory(int what) {
        switch (what) {
            case 0:
                return inMemory.pendingCount;
            case 1:
                return volume.freeBlocks();
            case 2:
                return volume.freeInodes();
            default:
                return what < FIRST_PENDING_COUNT ? NONE : inMemory.pendingAt(what - FIRST_PENDING_COUNT);
        }
    }

    private void requirePower() {
        if (onDisk.isOff) {
            throw new IllegalStateException("the power is off");
        }
    }

    private static void requireByte(int block, int k) {
        if (block < 0 || block >= BLOCKS || k < 0 || k >= BLOCK_BYTES) {
            throw new IndexOutOfBoundsException("no such byte of a block");
        }
    }

    private void commitIfMany() {
        if (inMemory.pendingCount > MOST_PENDING_AHEAD) {
            commit();
        }
    }

    private void commit() {
        if (inMemory.pendingCount == 0) {
            return;
        }
        commits++;
        if (!onDisk.storePending(inMemory)) {
            throw new UnsupportedOperationException("the power failed");
        }
        inMemory.forgetPending();
    }

    private static boolean isInode(int inode) {
        return inode >= 0 && inode < INODES;
    }

    private static int blocksFor(int size) {
        return (size + BLOCK_BYTES - 1) / BLOCK_BYTES;
    }

    private static int byteOf(long bytes, int k) {
        return (int) (bytes >>> 8 * (LONG_BYTES - 1 - k)) & 255;
    }

    private static long entryOf(int inode, long name) {
        return (long) (inode + 1) << 56 | name >>> 8;
    }

    private static boolean isName(long name) {
        int length = 0;
        while (length < LONG_BYTES && byteOf(name, length) != 0) {
            int character = byteOf(name, length);
            if (character < 33 || character > 126) {
                return false;
            }
            length++;
        }
        return length > 0 && length <= MOST_NAME && name << 8 * length == 0;
    }

    /** The bytes of all blocks; a byte that there is not is 0 and stays so, for no index may ever throw. */
    private static final class Blocks {
        private final byte[] bytes;

        Blocks() {
            bytes = new byte[BLOCKS * BLOCK_BYTES];
        }

        int get(int block, int k) {
            if (block < 0 || block >= BLOCKS || k < 0 || k >= BLOCK_BYTES) {
                return 0;
            }
            return bytes[block * BLOCK_BYTES + k] & 255;
        }

        void set(int block, int k, int value) {
            if (block >= 0 && block < BLOCKS && k >= 0 && k < BLOCK_BYTES) {
                bytes[block * BLOCK_BYTES + k] = (byte) value;
            }
        }

        void clear(int block) {
            for (int k = 0; k < BLOCK_BYTES; k++) {
                set(block, k, 0);
            }
        }

        void copyBlock(Blocks from, int source, int target) {
            if (source >= 0 && source < BLOCKS && target >= 0 && target < BLOCKS) {
                System.arraycopy(from.bytes, source * BLOCK_BYTES, bytes, target * BLOCK_BYTES, BLOCK_BYTES);
            }
        }

        void copyAll(Blocks from) {
            System.arraycopy(from.bytes, 0, bytes, 0, BLOCKS * BLOCK_BYTES);
        }
    }

    /** The blocks that outlive the power; what writes them answers false when the power failed. */
    private static final class Disk {
        private final Blocks blocks;
        private int writes;
        private int writesToFailure;
        private boolean isOff;

        Disk() {
            blocks = new Blocks();
            writes = 0;
            writesToFailure = NONE;
            isOff = false;
            blocks.set(FIRST_INODES, TYPE, DIRECTORY);
            blocks.set(FIRST_INODES, LINKS, 1);
            for (int block = 0; block < FIRST_CONTENT; block++) {
                blocks.set(MAP, block / 8, blocks.get(MAP, block / 8) | 1 << block % 8);
            }
        }

        boolean storePending(Memory memory) {
            return storeInLog(memory) && storeHead(memory) && storeInPlace(memory) && clearHead();
        }

        boolean replayLog(int n) {
            for (int i = 0; i < n; i++) {
                if (!storeBlock(blocks, FIRST_LOG + i, blocks.get(HEAD, 1 + i))) {
                    return false;
                }
            }
            return clearHead();
        }

        private boolean storeInLog(Memory memory) {
            for (int i = 0; i < memory.pendingCount; i++) {
                if (!storeBlock(memory.blocks, memory.pendingAt(i), FIRST_LOG + i)) {
                    return false;
                }
            }
            return true;
        }

        private boolean storeInPlace(Memory memory) {
            for (int i = 0; i < memory.pendingCount; i++) {
                if (!storeBlock(memory.blocks, memory.pendingAt(i), memory.pendingAt(i))) {
                    return false;
                }
            }
            return true;
        }

        private boolean storeHead(Memory memory) {
            if (!spendWrite()) {
                return false;
            }
            blocks.clear(HEAD);
            blocks.set(HEAD, 0, memory.pendingCount);
            for (int i = 0; i < memory.pendingCount; i++) {
                blocks.set(HEAD, 1 + i, memory.pendingAt(i));
            }
            return true;
        }

        private boolean clearHead() {
            if (!spendWrite()) {
                return false;
            }
            blocks.clear(HEAD);
            return true;
        }

        private boolean storeBlock(Blocks from, int source, int target) {
            if (!spendWrite()) {
                return false;
            }
            blocks.copyBlock(from, source, target);
            return true;
        }

        private boolean spendWrite() {
            if (writesToFailure == 0) {
                writesToFailure = NONE;
                isOff = true;
                return false;
            }
            if (writesToFailure > 0) {
                writesToFailure--;
            }
            writes++;
            return true;
        }
    }

    /** The blocks as the calls see them, and which of them the disk does not have yet. */
    private static final class Memory {
        private final Blocks blocks;
        private final int[] pending;
        private int pendingCount;

        Memory() {
            blocks = new Blocks();
            pending = new int[LOG_BLOCKS];
            pendingCount = 0;
        }

        void load(Blocks from) {
            blocks.copyAll(from);
            forgetPending();
        }

        void change(int block, int k, int value) {
            markPending(block);
            blocks.set(block, k, value);
        }

        void clear(int block) {
            markPending(block);
            blocks.clear(block);
        }

        int pendingAt(int i) {
            return i >= 0 && i < pendingCount ? pending[i] : NONE;
        }

        void forgetPending() {
            pendingCount = 0;
        }

        private void markPending(int block) {
            for (int i = 0; i < pendingCount; i++) {
                if (pending[i] == block) {
                    return;
                }
            }
            // Never full here, for no call changes more than the log has room for.
            if (pendingCount < LOG_BLOCKS) {
                pending[pendingCount] = block;
                pendingCount++;
            }
        }
    }

    /** Inodes, the map, contents and entries, as the blocks in memory hold them. */
    private static final class Volume {
        private final Memory memory;
        private final Blocks blocks;

        Volume(Memory memory) {
            this.memory = memory;
            this.blocks = memory.blocks;
        }

        int type(int inode) {
            return inodeByte(inode, TYPE);
        }

        int links(int inode) {
            return inodeByte(inode, LINKS);
        }

        int size(int inode) {
            return inodeByte(inode, SIZE) << 8 | inodeByte(inode, SIZE + 1);
        }

        boolean isFile(int inode) {
            return type(inode) == FILE;
        }

        boolean isDirectory(int inode) {
            return type(inode) == DIRECTORY;
        }

        int leastFreeInode() {
            for (int inode = 0; inode < INODES; inode++) {
                if (type(inode) == 0) {
                    return inode;
                }
            }
            return NONE;
        }

        int freeInodes() {
            int free = 0;
            for (int inode = 0; inode < INODES; inode++) {
                if (type(inode) == 0) {
                    free++;
                }
            }
            return free;
        }

        int freeBlocks() {
            int free = BLOCKS;
            for (int k = 0; k < MAP_BYTES; k++) {
                free -= Integer.bitCount(blocks.get(MAP, k));
            }
            return free;
        }

        int contentByte(int inode, int at) {
            return blocks.get(contentBlock(inode, at / BLOCK_BYTES), at % BLOCK_BYTES);
        }

        /** Where the entry of a name stands in the content of a directory. */
        int placeOf(int directory, long name) {
            if (!isDirectory(directory) || !isName(name)) {
                return NONE;
            }
            int size = size(directory);
            for (int at = 0; at < size; at += ENTRY_BYTES) {
                if (entryAt(directory, at) << 8 == name) {
                    return at;
                }
            }
            return NONE;
        }

        int placeForEntry(int directory) {
            int size = size(directory);
            for (int at = 0; at < size; at += ENTRY_BYTES) {
                if (entryAt(directory, at) == 0) {
                    return at;
                }
            }
            return size;
        }

        int inodeAt(int directory, int at) {
            return byteOf(entryAt(directory, at), 0) - 1;
        }

        int entries(int inode) {
            int entries = 0;
            int size = isDirectory(inode) ? size(inode) : 0;
            for (int at = 0; at < size; at += ENTRY_BYTES) {
                if (entryAt(inode, at) != 0) {
                    entries++;
                }
            }
            return entries;
        }

        boolean canEnter(int directory, long name) {
            return isDirectory(directory) && isName(name) && placeOf(directory, name) == NONE
                    && fits(directory, placeForEntry(directory) + ENTRY_BYTES);
        }

        boolean canPut(int inode, int at, int n) {
            return isFile(inode) && at >= 0 && at <= size(inode) && fits(inode, at + n);
        }

        void begin(int inode, int type) {
            setInodeByte(inode, TYPE, type);
            setInodeByte(inode, LINKS, 1);
        }

        void addLink(int inode) {
            setInodeByte(inode, LINKS, links(inode) + 1);
        }

        void dropLink(int inode) {
            if (links(inode) > 1) {
                setInodeByte(inode, LINKS, links(inode) - 1);
                return;
            }
            empty(inode);
            setInodeByte(inode, TYPE, 0);
            setInodeByte(inode, LINKS, 0);
        }

        void putLong(int inode, int at, long bytes, int n) {
            for (int i = 0; i < n; i++) {
                putByte(inode, at + i, byteOf(bytes, i));
            }
            growTo(inode, at + n);
        }

        void putSame(int inode, int at, int value, int n) {
            for (int i = 0; i < n; i++) {
                putByte(inode, at + i, value);
            }
            growTo(inode, at + n);
        }

        void empty(int inode) {
            int held = blocksFor(size(inode));
            for (int index = 0; index < held; index++) {
                giveBack(contentBlock(inode, index));
            }
            int indirect = inodeByte(inode, INDIRECT);
            if (indirect != 0) {
                giveBack(indirect);
            }
            for (int k = SIZE; k < INODE_BYTES; k++) {
                setInodeByte(inode, k, 0);
            }
        }

        private int inodeByte(int inode, int k) {
            if (!isInode(inode)) {
                return 0;
            }
            return blocks.get(FIRST_INODES + inode / INODES_IN_BLOCK, inode % INODES_IN_BLOCK * INODE_BYTES + k);
        }

        private void setInodeByte(int inode, int k, int value) {
            if (isInode(inode)) {
                memory.change(FIRST_INODES + inode / INODES_IN_BLOCK,
                        inode % INODES_IN_BLOCK * INODE_BYTES + k, value);
            }
        }

        /** The block that has a part of a content; 0 if there is none. */
        private int contentBlock(int inode, int index) {
            if (index < DIRECT_BLOCKS) {
                return inodeByte(inode, DIRECT + index);
            }
            int indirect = inodeByte(inode, INDIRECT);
            return indirect == 0 ? 0 : blocks.get(indirect, index - DIRECT_BLOCKS);
        }

        private long entryAt(int directory, int at) {
            int block = contentBlock(directory, at / BLOCK_BYTES);
            long entry = 0;
            for (int k = 0; k < ENTRY_BYTES; k++) {
                entry = entry << 8 | blocks.get(block, at % BLOCK_BYTES + k);
            }
            return entry;
        }

        private boolean fits(int inode, int end) {
            return end <= MOST_BYTES && blocksToTake(inode, end) <= freeBlocks();
        }

        private int blocksToTake(int inode, int end) {
            int held = blocksFor(size(inode));
            int needed = blocksFor(end);
            if (needed <= held) {
                return 0;
            }
            boolean needsIndirect = needed > DIRECT_BLOCKS && held <= DIRECT_BLOCKS;
            return needed - held + (needsIndirect ? 1 : 0);
        }

        private void putByte(int inode, int at, int value) {
            int index = at / BLOCK_BYTES;
            if (contentBlock(inode, index) == 0) {
                addContentBlock(inode, index);
            }
            memory.change(contentBlock(inode, index), at % BLOCK_BYTES, value);
        }

        private void growTo(int inode, int end) {
            if (end > size(inode)) {
                setInodeByte(inode, SIZE, end >> 8);
                setInodeByte(inode, SIZE + 1, end);
            }
        }

        private void addContentBlock(int inode, int index) {
            if (index < DIRECT_BLOCKS) {
                int direct = takeBlock();
                setInodeByte(inode, DIRECT + index, direct);
                return;
            }
            if (inodeByte(inode, INDIRECT) == 0) {
                int indirect = takeBlock();
                setInodeByte(inode, INDIRECT, indirect);
            }
            int block = takeBlock();
            memory.change(inodeByte(inode, INDIRECT), index - DIRECT_BLOCKS, block);
        }

        private int takeBlock() {
            int block = leastFreeBlock();
            memory.change(MAP, block / 8, blocks.get(MAP, block / 8) | 1 << block % 8);
            memory.clear(block);
            return block;
        }

        private void giveBack(int block) {
            memory.change(MAP, block / 8, blocks.get(MAP, block / 8) & ~(1 << block % 8));
        }

        /** Every call looks at the number of free blocks ahead, so the 0 behind the loop is never taken. */
        private int leastFreeBlock() {
            for (int block = FIRST_CONTENT; block < BLOCKS; block++) {
                if ((blocks.get(MAP, block / 8) >> block % 8 & 1) == 0) {
                    return block;
                }
            }
            return 0;
        }
    }
}
