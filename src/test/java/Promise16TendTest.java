public final class Promise16TendTest {
    // File 1 is closed, with three units in block 0 on the data nodes 0, 1 and 2.
    private static final String CLOSED_FILE = "takeover(0) = 1\nmake(2, 0, 0) = 1\n" + Script.times(3, "append(2, 1, 1@) = any")
        + "pass(6) = 6\nclose(2, 1) = 0\n";

    public static void main(String[] args) {
        Script.run("no master", "tend(-1) = NONE", "tend(0) = NONE", "tend(7) = NONE");
        replicates();
        picksBlocksAndNodes();
        drops();
        Script.end();
    }

    private static void replicates() {
        Script.run("three good ones are enough", CLOSED_FILE, "tend(-1) = NONE", "status(3) = 3");
        Script.run("a third good one with the units and stamp of the first",
            CLOSED_FILE, "power(0, 0, down) = true", "tend(-1) = 0", "replica(3, 0, *) = 2049 3", "block(1, 0, *) = 0 2049 14 3 1",
            "tend(-1) = NONE", "power(0, 1, down) = true", "power(0, 2, down) = true", Script.times(3, "read(1, @) = 1@"),
            "tend(-1) = 0", "replica(4, 0, *) = 2049 3", "tend(-1) = NONE", "power(0, 0, up) = true", "power(0, 1, up) = true",
            "power(0, 2, up) = true", "block(1, 0, 2) = 31", "status(2) = 3");
        Script.run("the first replica may be on data node 0",
            CLOSED_FILE, "power(0, 1, down) = true", "power(0, 2, down) = true", "tend(-1) = 0", "tend(-1) = 0", "tend(-1) = NONE",
            "block(1, 0, *) = 0 2049 25 3 1", "power(0, 0, down) = true", "power(0, 3, down) = true", Script.times(3, "read(1, @) = 1@"));
        Script.run("without a good one there is nothing to copy",
            CLOSED_FILE, Script.times(3, "power(0, @, down) = true"), "tend(-1) = NONE", "status(3) = 3");
        Script.run("in place of a replica left behind, which still counts for the load",
            "takeover(0) = 1", "make(2, 0, 0) = 1", Script.times(3, "append(2, 1, 1@) = any"), "pass(6) = 6", "power(0, 0, down) = true",
            "power(0, 3, down) = true", "power(0, 4, down) = true", "close(2, 1) = 0", "tend(-1) = NONE", "power(0, 0, up) = true",
            "block(1, 0, *) = 0 2050 6 3 0", "tend(-1) = 0", "replica(0, 0, *) = 2050 3", "block(1, 0, 2) = 7", "status(3) = 3");
        Script.run("a node with a replica left behind is passed over for an emptier one",
            "takeover(0) = 1", "make(2, 0, 0) = 1", "append(2, 1, 5) = 1", "pass(2) = 2", "power(0, 0, down) = true", "close(2, 1) = 0",
            "power(0, 0, up) = true", "tend(-1) = 0", "block(1, 0, 2) = 14", "replica(0, 0, 0) = 2049", "tend(0) = 1", "tend(0) = 0");
        Script.run("never the last block of an open file",
            "takeover(0) = 1", "make(2, 0, 0) = 1", Script.times(8, "append(2, 1, 1@) = any"), "pass(32) = 16", "power(0, 1, down) = true",
            "tend(-1) = NONE", "power(0, 1, up) = true", "append(2, 1, 20) = 1", "pass(2) = 2", "power(0, 0, down) = true",
            "block(1, 0, 2) = 6", "block(1, 1, 2) = 24", "tend(-1) = 0", "block(1, 0, 2) = 14", "tend(-1) = NONE", "block(1, 1, 2) = 24",
            "close(2, 1) = 0", "tend(-1) = 1", "block(1, 1, 2) = 26");
    }

    private static void picksBlocksAndNodes() {
        String twoFiles = CLOSED_FILE + "make(2, 0, 1) = 2\nappend(2, 2, 20) = 1\npass(2) = 2\nclose(2, 2) = 0\n";
        Script.run("the units of the block itself are copied",
            twoFiles, "power(0, 3, down) = true", "tend(-1) = 1", "block(2, 0, *) = 1 2052 19 1 1", "replica(1, 1, *) = 2052 1",
            "replica(1, 0, *) = 2049 3", "power(0, 0, down) = true", "power(0, 4, down) = true", "read(2, 0) = 20", "read(2, 1) = NOUNIT");
        Script.run("the least block, and the least load",
            twoFiles, "block(2, 0, *) = 1 2052 25", "power(0, 0, down) = true", "tend(-1) = 0", "block(1, 0, 2) = 14", "tend(-1) = 1",
            "block(2, 0, 2) = 26", "tend(-1) = NONE", "status(3) = 8");
        Script.run("a block that has a good one on each data node that is up is not in the way",
            twoFiles, "power(0, 0, down) = true", "power(0, 3, down) = true", "power(0, 4, down) = true", "block(1, 0, 2) = 6",
            "block(2, 0, 2) = 0", "tend(-1) = NONE", "power(0, 3, up) = true", "power(0, 1, down) = true", "power(0, 2, down) = true",
            "block(2, 0, 2) = 8", "tend(-1) = NONE", "power(0, 2, up) = true", "tend(-1) = 0", "block(1, 0, 2) = 12",
            "tend(-1) = 1", "block(2, 0, 2) = 12", "tend(-1) = NONE");
        Script.run("blocks of removed files are left alone", CLOSED_FILE, "remove(1) = 0", "power(0, 0, down) = true", "tend(-1) = NONE");
    }

    private static void drops() {
        Script.run("refused", CLOSED_FILE, "tend(5) = REFUSED", "tend(-2) = REFUSED", "tend(2147483647) = REFUSED",
            "power(0, 0, down) = true", "tend(0) = REFUSED", "replica(0, 0, 0) = 2049");
        Script.run("good ones stay", CLOSED_FILE, Script.times(5, "tend(@) = 0"), "status(3) = 3", "make(2, 0, 1) = 2", "append(2, 2, 7) = 1",
            Script.times(5, "tend(@) = 0"), "status(3) = 6");
        Script.run("blocks in no row", CLOSED_FILE, "remove(1) = 0", "tend(0) = 1", "tend(0) = 0", "tend(3) = 0", "tend(2) = 1",
            "status(3) = 1", "replica(1, 0, 0) = 2049");
        Script.run("those left behind, also where no good one is up",
            "takeover(0) = 1", "make(2, 0, 0) = 1", "append(2, 1, 5) = 1", "pass(2) = 2", "power(0, 0, down) = true", "close(2, 1) = 0",
            "power(0, 0, up) = true", "power(0, 1, down) = true", "power(0, 2, down) = true", "block(1, 0, *) = 0 2050 0 NONE 0",
            "tend(0) = 1", "replica(0, 0, 0) = NONE", "power(0, 1, up) = true", "tend(1) = 0", "read(1, 0) = 5");
        StringBuilder fiveFiles = new StringBuilder("takeover(0) = 1\n");
        for (int f = 1; f <= 5; f++) {
            fiveFiles.append(String.format("make(2, 0, %1$d) = %1$d%nappend(2, %1$d, 7) = 1%n", f));
        }
        // Blocks closed without a unit in all their good replicas leave their rows.
        Script.run("several at once", fiveFiles.toString(), "status(3) = 15", "close(-1, 1) = 0", "close(-1, 2) = 0", "close(-1, 4) = 0",
            "replica(0, 0, 1) = 0", "replica(0, 1, 1) = 0", "replica(0, 3, 1) = 0", "tend(0) = 3", "tend(0) = 0", "tend(3) = 1",
            "status(3) = 11", "replica(3, 2, 1) = 0", "replica(3, 4, 1) = 0");
    }
}
