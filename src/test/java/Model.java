import java.util.ArrayList;
import java.util.Arrays;
import java.util.LinkedHashSet;
import java.util.List;

/**
 * A second telling of the document, to compare runs with: inodes are objects here, which are written out to blocks
 * when they change and are read from the blocks anew at a mount.
 */
final class Model {
    static final class PowerIsOff extends RuntimeException {
        private static final long serialVersionUID = 1L;
    }

    static final class PowerFails extends RuntimeException {
        private static final long serialVersionUID = 1L;
    }

    static final class Outside extends RuntimeException {
        private static final long serialVersionUID = 1L;
    }

    private static final class Node {
        private final int number;
        private int type;
        private int links;
        private int size;
        private int indirect;
        private final List<Integer> blocks = new ArrayList<>();

        Node(int number) {
            this.number = number;
        }
    }

    private final int[][] disk = new int[128][64];
    private int[][] memory;
    private final Node[] nodes = new Node[32];
    private final LinkedHashSet<Integer> pending = new LinkedHashSet<>();
    private boolean off;
    private long failure = Long.MAX_VALUE;
    private int writes;
    private int commits;

    Model() {
        disk[17][0] = 2;
        disk[17][1] = 1;
        disk[25][0] = 255;
        disk[25][1] = 255;
        disk[25][2] = 255;
        disk[25][3] = 3;
        load();
    }

    private void load() {
        pending.clear();
        memory = new int[128][];
        for (int b = 0; b < 128; b++) {
            memory[b] = disk[b].clone();
        }
        for (int i = 0; i < 32; i++) {
            int[] bytes = Arrays.copyOfRange(memory[17 + i / 4], i % 4 * 16, i % 4 * 16 + 16);
            Node node = new Node(i);
            node.type = bytes[0];
            node.links = bytes[1];
            node.size = bytes[2] * 256 + bytes[3];
            node.indirect = bytes[14];
            for (int k = 0; k * 64 < node.size; k++) {
                node.blocks.add(k < 10 ? bytes[4 + k] : memory[node.indirect][k - 10]);
            }
            nodes[i] = node;
        }
    }

    private void store(int block, int[] bytes) {
        if (writes >= failure) {
            failure = Long.MAX_VALUE;
            off = true;
            throw new PowerFails();
        }
        writes++;
        disk[block] = bytes.clone();
    }

    private int commit() {
        if (pending.isEmpty()) {
            return 0;
        }
        commits++;
        int[] head = new int[64];
        for (int block : pending) {
            head[0]++;
            head[head[0]] = block;
            store(1 + head[0], memory[block]);
        }
        store(1, head);
        for (int block : pending) {
            store(block, memory[block]);
        }
        store(1, new int[64]);
        int n = pending.size();
        pending.clear();
        return 2 * n + 2;
    }

    private void needPower() {
        if (off) {
            throw new PowerIsOff();
        }
    }

    private void commitAhead() {
        if (pending.size() >= 11) {
            commit();
        }
    }

    private void saveNode(Node node) {
        int block = 17 + node.number / 4;
        int[] bytes = new int[16];
        bytes[0] = node.type;
        bytes[1] = node.links;
        bytes[2] = node.size / 256;
        bytes[3] = node.size % 256;
        for (int k = 0; k < Math.min(10, node.blocks.size()); k++) {
            bytes[4 + k] = node.blocks.get(k);
        }
        bytes[14] = node.indirect;
        System.arraycopy(bytes, 0, memory[block], node.number % 4 * 16, 16);
        pending.add(block);
    }

    private boolean used(int block) {
        return (memory[25][block / 8] & 1 << block % 8) != 0;
    }

    private int freeBlocks() {
        int free = 0;
        for (int b = 0; b < 128; b++) {
            free += used(b) ? 0 : 1;
        }
        return free;
    }

    private int take() {
        int block = 0;
        while (used(block)) {
            block++;
        }
        memory[25][block / 8] += 1 << block % 8;
        pending.add(25);
        memory[block] = new int[64];
        pending.add(block);
        return block;
    }

    private void addBlock(Node node) {
        int index = node.blocks.size();
        if (index < 10) {
            node.blocks.add(take());
            saveNode(node);
            return;
        }
        if (node.indirect == 0) {
            node.indirect = take();
            saveNode(node);
        }
        node.blocks.add(take());
        memory[node.indirect][index - 10] = node.blocks.get(index);
        pending.add(node.indirect);
    }

    private boolean fits(Node node, int end) {
        if (end > 1000) {
            return false;
        }
        int due = (end + 63) / 64;
        int taken = Math.max(0, due - node.blocks.size());
        if (due > 10 && node.indirect == 0) {
            taken++;
        }
        return taken <= freeBlocks();
    }

    private void put(Node node, int at, int[] bytes) {
        for (int i = 0; i < bytes.length; i++) {
            int index = (at + i) / 64;
            if (index == node.blocks.size()) {
                addBlock(node);
            }
            memory[node.blocks.get(index)][(at + i) % 64] = bytes[i];
            pending.add(node.blocks.get(index));
        }
        if (at + bytes.length > node.size) {
            node.size = at + bytes.length;
            saveNode(node);
        }
    }

    private void emptyNode(Node node) {
        List<Integer> all = new ArrayList<>(node.blocks);
        if (node.indirect != 0) {
            all.add(node.indirect);
        }
        for (int block : all) {
            memory[25][block / 8] -= 1 << block % 8;
            pending.add(25);
        }
        node.blocks.clear();
        node.indirect = 0;
        node.size = 0;
        saveNode(node);
    }

    private Node node(int inode, int type) {
        return inode >= 0 && inode < 32 && nodes[inode].type == type ? nodes[inode] : null;
    }

    /** The text of a name; null if it is none. */
    private static String text(long name) {
        StringBuilder text = new StringBuilder();
        for (int shift = 56; shift >= 0; shift -= 8) {
            text.append((char) (name >>> shift & 255));
        }
        String all = text.toString();
        int end = all.indexOf(0);
        if (end < 0) {
            return null;
        }
        return all.matches("[!-~]{1,7}\u0000+") ? all.substring(0, end) : null;
    }

    private int byteAt(Node node, int at) {
        return memory[node.blocks.get(at / 64)][at % 64];
    }

    /** Names of a directory in their places; null for a free place. */
    private List<String> entries(Node node) {
        List<String> entries = new ArrayList<>();
        for (int at = 0; at < node.size; at += 8) {
            StringBuilder name = new StringBuilder();
            for (int k = 1; k < 8 && byteAt(node, at + k) != 0; k++) {
                name.append((char) byteAt(node, at + k));
            }
            entries.add(byteAt(node, at) == 0 ? null : name.toString());
        }
        return entries;
    }

    /** Where a new entry goes; -1 if it can't be there. */
    private int placeFor(Node directory, String name) {
        if (directory == null || name == null) {
            return -1;
        }
        List<String> entries = entries(directory);
        if (entries.contains(name)) {
            return -1;
        }
        int place = entries.contains(null) ? entries.indexOf(null) : entries.size();
        return fits(directory, 8 * place + 8) ? place : -1;
    }

    private void enter(Node directory, int place, String name, int inode) {
        int[] bytes = new int[8];
        bytes[0] = inode + 1;
        for (int k = 0; k < name.length(); k++) {
            bytes[1 + k] = name.charAt(k);
        }
        put(directory, 8 * place, bytes);
    }

    int make(int directory, long name, boolean isDirectory) {
        needPower();
        Node in = node(directory, 2);
        int place = placeFor(in, text(name));
        int inode = 0;
        while (inode < 32 && nodes[inode].type != 0) {
            inode++;
        }
        if (place < 0 || inode == 32) {
            return -1;
        }
        commitAhead();
        nodes[inode].type = isDirectory ? 2 : 1;
        nodes[inode].links = 1;
        saveNode(nodes[inode]);
        enter(in, place, text(name), inode);
        return inode;
    }

    int link(int directory, long name, int inode) {
        needPower();
        Node in = node(directory, 2);
        Node file = node(inode, 1);
        int place = placeFor(in, text(name));
        if (place < 0 || file == null || file.links == 200) {
            return 0;
        }
        commitAhead();
        file.links++;
        saveNode(file);
        enter(in, place, text(name), inode);
        return 1;
    }

    int unlink(int directory, long name) {
        int inode = find(directory, name);
        if (inode < 0 || look(inode, 4) != 0) {
            return 0;
        }
        commitAhead();
        Node in = nodes[directory];
        put(in, 8 * entries(in).indexOf(text(name)), new int[8]);
        Node node = nodes[inode];
        node.links--;
        if (node.links == 0) {
            node.type = 0;
            emptyNode(node);
        }
        saveNode(node);
        return 1;
    }

    private int put(int inode, int at, int[] bytes) {
        Node file = node(inode, 1);
        if (file == null || at < 0 || at > file.size || !fits(file, at + bytes.length)) {
            return -1;
        }
        commitAhead();
        put(file, at, bytes);
        return file.size;
    }

    int write(int inode, int at, long bytes, int n) {
        needPower();
        if (n < 1 || n > 8) {
            return -1;
        }
        int[] all = new int[n];
        long left = bytes;
        for (int i = 0; i < n; i++) {
            all[i] = (int) (left >> 56 & 255);
            left *= 256;
        }
        return put(inode, at, all);
    }

    int fill(int inode, int at, int value, int n) {
        needPower();
        if (n < 1 || n > 64 || value != (value & 255)) {
            return -1;
        }
        int[] all = new int[n];
        Arrays.fill(all, value);
        return put(inode, at, all);
    }

    int truncate(int inode) {
        needPower();
        Node file = node(inode, 1);
        if (file == null || file.size == 0) {
            return 0;
        }
        commitAhead();
        emptyNode(file);
        return 1;
    }

    int sync() {
        needPower();
        return commit();
    }

    int failAfter(int n) {
        if (n < 0) {
            return 0;
        }
        failure = (long) writes + n;
        return 1;
    }

    int mount() {
        off = false;
        pending.clear();
        int[] head = disk[1];
        for (int i = 1; i <= head[0]; i++) {
            store(head[i], disk[1 + i]);
        }
        if (head[0] > 0) {
            store(1, new int[64]);
        }
        load();
        return head[0];
    }

    int find(int directory, long name) {
        needPower();
        Node in = node(directory, 2);
        String text = text(name);
        if (in == null || text == null || !entries(in).contains(text)) {
            return -1;
        }
        return byteAt(in, 8 * entries(in).indexOf(text)) - 1;
    }

    int read(int inode, int at) {
        needPower();
        if (inode < 0 || inode > 31 || at < 0 || at >= nodes[inode].size) {
            throw new Outside();
        }
        return byteAt(nodes[inode], at);
    }

    int look(int inode, int what) {
        needPower();
        if (inode < 0 || inode > 31 || what < 0 || what > 4) {
            throw new Outside();
        }
        Node node = nodes[inode];
        int used = 0;
        if (node.type == 2) {
            for (String entry : entries(node)) {
                used += entry == null ? 0 : 1;
            }
        }
        return new int[] {node.type, node.links, node.size, node.blocks.size(), used}[what];
    }

    int disk(int block, int k) {
        if (block < 0 || block > 127 || k < 0 || k > 63) {
            throw new Outside();
        }
        return disk[block][k];
    }

    int memory(int block, int k) {
        needPower();
        if (block < 0 || block > 127 || k < 0 || k > 63) {
            throw new Outside();
        }
        return memory[block][k];
    }

    int count(int what) {
        if (what == 3) {
            return writes;
        }
        if (what == 4) {
            return commits;
        }
        if (what == 5) {
            return off ? 1 : 0;
        }
        if (off || what < 0) {
            return -1;
        }
        if (what == 0) {
            return pending.size();
        }
        if (what == 1) {
            return freeBlocks();
        }
        if (what == 2) {
            int free = 0;
            for (Node node : nodes) {
                free += node.type == 0 ? 1 : 0;
            }
            return free;
        }
        List<Integer> blocks = new ArrayList<>(pending);
        return what >= 8 && what - 8 < blocks.size() ? blocks.get(what - 8) : -1;
    }
}
