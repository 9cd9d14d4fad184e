public final class Promise05AppendTest {
    private static final String OPEN_FILE = "takeover(0) = 1\nmake(2, 0, 0) = 1\n";
    private static final String FILL = Script.times(8, "append(2, 1, 5@) = any") + "pass(32) = 16\n";

    public static void main(String[] args) {
        wrongInputs();
        whereBlocksGo();
        unitsAndBlocks();
        hanging();
        full();
        lost();
        Script.end();
    }

    private static void wrongInputs() {
        Script.run("no master", "append(9, 99, 0) = NONE");
        Script.run("not open for this client",
            OPEN_FILE, "make(-1, 0, 1) = 2", "append(1, 1, 5) = REFUSED", "append(-1, 1, 5) = REFUSED",
            "append(4, 1, 5) = REFUSED", "append(2, 2, 5) = REFUSED", "append(-1, 2, 5) = REFUSED", "append(2, 3, 5) = REFUSED",
            "append(2, 0, 5) = REFUSED", "append(2, -1, 5) = REFUSED", "append(2, 12, 5) = REFUSED", "close(2, 1) = 0",
            "append(2, 1, 5) = REFUSED", "append(-1, 1, 5) = REFUSED", "status(3) = 0", "status(2) = 3");
    }

    private static void whereBlocksGo() {
        Script.run("the least loads, of equal ones the least",
            OPEN_FILE, "make(2, 0, 1) = 2", "make(2, 0, 2) = 3",
            "append(2, 1, 5) = 1", "block(1, 0, *) = 0 2051 7 0 0", "journal(0, 3, *) = 1 1 1 0 0",
            "append(2, 3, 6) = 1", "block(3, 0, *) = 1 2052 25 0 0", "replica(0, 1, 1) = 1", "replica(3, 1, 1) = 0",
            "append(2, 2, 7) = 1", "block(2, 0, *) = 2 2053 14 0 0", "replica(1, 2, 1) = 1", "status(3) = 9");
        Script.run("all that are up, if they are fewer than three",
            OPEN_FILE, "make(2, 0, 1) = 2", "make(2, 0, 2) = 3", "power(0, 0, down) = true", "power(0, 2, down) = true",
            "power(0, 3, down) = true", "append(2, 1, 5) = 1", "block(1, 0, *) = 0 2051 18 0 0", "replica(1, 0, 1) = 1",
            "power(0, 1, down) = true", "append(2, 2, 5) = 1", "block(2, 0, *) = 1 2052 16 1 0",
            "power(0, 4, down) = true", "append(2, 3, 5) = REFUSED", "status(2) = 5", "node(3, 3) = 0");
        Script.run("one data node is enough",
            OPEN_FILE, "power(0, 1, down) = true", "power(0, 2, down) = true", "power(0, 3, down) = true", "power(0, 4, down) = true",
            "append(2, 1, 5) = 1", "block(1, 0, *) = 0 2049 1 1 0", "status(3) = 1",
            "read(1, 0) = 5", "close(2, 1) = 0");
        Script.run("an almost empty data node gets one replica, not more",
            "takeover(0) = 1", "power(0, 3, down) = true", "power(0, 4, down) = true", Script.times(7, "make(2, 0, @) = any"),
            "append(2, 1, 5) = 1", "append(2, 2, 5) = 1", "append(2, 3, 5) = 1", "power(0, 4, up) = true", "append(2, 4, 5) = 1",
            "block(4, 0, 2) = 19", "replica(4, 3, *) = 2058 0", "replica(0, 3, *) = 2058 1", "append(2, 5, 5) = 1", "block(5, 0, 2) = 21",
            "power(0, 3, up) = true", "append(2, 6, 5) = 1", "block(6, 0, 2) = 26", "status(3) = 18");
        Script.run("a block used again replaces its old replicas, which count for the load",
            OPEN_FILE, "append(2, 1, 5) = 1", "append(2, 1, 6) = 2", "pass(4) = 4", "close(2, 1) = 0", "remove(1) = 0",
            "make(3, 0, 1) = 1", "append(3, 1, 7) = 1", "block(1, 0, *) = 0 2053 25 0 0", "replica(0, 0, *) = 2053 1",
            "replica(1, 0, *) = 2049 2", "replica(3, 0, *) = 2053 0", "status(3) = 5");
    }

    private static void unitsAndBlocks() {
        Script.run("the first replica takes 8 units, then all must have them",
            OPEN_FILE, Script.times(7, "append(2, 1, @) = any"), "append(2, 1, 7) = 8", "append(2, 1, 8) = REFUSED",
            "pass(15) = 15", "append(2, 1, 8) = REFUSED", "pass(1) = 1", "status(2) = 2", "append(2, 1, 8) = 1",
            "status(2) = 3", "node(1, 3) = 2", "block(1, 1, *) = 1 2050 25 0 0", "read(1, 7) = 7", "read(1, 8) = NOUNIT",
            "pass(2) = 2", "read(1, 8) = 8");
        Script.run("three blocks at most",
            OPEN_FILE, FILL, FILL, FILL, "node(1, *) = 2 0 2 3 24", "append(2, 1, 9) = REFUSED", "status(2) = 4",
            "power(0, 4, down) = true", "append(2, 1, 9) = REFUSED", "status(2) = 4");
        Script.run("a file that can't grow is refused without a renewal of its hanging block",
            OPEN_FILE, FILL, FILL, FILL, "block(1, 2, *) = 2 2051 14 8 0", "power(0, 1, down) = true", "block(1, 2, 4) = 1",
            "append(2, 1, 9) = REFUSED", "replica(2, 2, 0) = 2051", "status(2) = 4");
        Script.run("units are all ints",
            OPEN_FILE, "append(2, 1, 2147483647) = 1", "append(2, 1, -2147483648) = 2", "append(2, 1, -1) = 3", "pass(6) = 6",
            "read(1, 0) = 2147483647", "read(1, 1) = -2147483648", "read(1, 2) = -1");
        Script.run("without a record no journal is needed",
            OPEN_FILE, "append(2, 1, 5) = 1", Script.times(3, "power(1, @, down) = true"), "append(2, 1, 6) = 2",
            "journal(0, -1, 2) = 1", "status(0) = 0");
        Script.run("no good replica",
            OPEN_FILE, "append(2, 1, 5) = 1", "power(0, 0, down) = true", "power(0, 1, down) = true", "power(0, 2, down) = true",
            "append(2, 1, 6) = REFUSED", "status(2) = 2");
    }

    private static void hanging() {
        Script.run("a hanging block is cut to the fewest units and stamped anew",
            OPEN_FILE, Script.times(4, "append(2, 1, 1@) = any"), "pass(4) = 4", "pass(2) = 2", "power(0, 3, down) = true",
            "append(2, 1, 14) = 5", "power(0, 0, down) = true", "block(1, 0, *) = 0 2049 6 2 1", "append(2, 1, 20) = 3",
            "journal(0, 2, *) = 1 2 0 0 0", "replica(1, 0, *) = 2050 3", "replica(2, 0, *) = 2050 2",
            "replica(0, 0, *) = 2049 5", "block(1, 0, *) = 0 2050 6 2 0", "pass(9) = 1", "read(1, 2) = 20",
            "power(0, 0, up) = true", "block(1, 0, 2) = 6", "append(2, 1, 21) = 4", "replica(0, 0, 1) = 5");
        Script.run("a first replica with 8 units is cut, too",
            OPEN_FILE, Script.times(8, "append(2, 1, 1@) = any"), "pass(11) = 11", "power(0, 1, down) = true",
            "append(2, 1, 30) = 4", "replica(0, 0, *) = 2050 4", "replica(2, 0, *) = 2050 3", "status(2) = 3");
        Script.run("a hanging block with 8 units everywhere is renewed and gets one behind it",
            OPEN_FILE, FILL, "power(0, 0, down) = true", "append(2, 1, 9) = 1", "status(2) = 4",
            "journal(1, 2, *) = 1 2 0 0 0", "journal(1, 3, *) = 1 1 1 1 0", "block(1, 0, *) = 0 2050 6 8 0",
            "block(1, 1, *) = 1 2051 26 0 0", "replica(1, 1, *) = 2051 1");
    }

    private static void full() {
        String thirtyEight = Script.times(18, "make(-1, 0, 7) = 2\nremove(2) = 0");
        Script.run("both records must have room",
            OPEN_FILE, FILL, thirtyEight, "make(0, 0, 5) = 2", "status(2) = 39", "power(0, 0, down) = true",
            "append(2, 1, 9) = FULL", "replica(1, 0, *) = 2049 8", "status(2) = 39", "power(0, 0, up) = true",
            "append(2, 1, 9) = 1", "status(2) = 40", "append(2, 1, 10) = 2");
        Script.run("two records with room for just two",
            OPEN_FILE, FILL, thirtyEight, "status(2) = 38", "power(0, 0, down) = true", "append(2, 1, 9) = 1",
            "status(2) = 40", "append(2, 1, 10) = 2", "power(0, 1, down) = true", "append(2, 1, 11) = FULL",
            "replica(3, 1, *) = 2087 0");
        Script.run("all 16 blocks are in rows",
            "takeover(0) = 1", "make(-1, 0, 7) = 1", Script.times(6, "make(2, 1, @) = any"), Script.times(4, "make(2, 0, @) = any"),
            twoBlocks(2), twoBlocks(3), twoBlocks(4), twoBlocks(5), twoBlocks(6), twoBlocks(7),
            "append(2, 10, 1) = 1", "append(2, 11, 1) = 1", "append(2, 8, 1) = 1", "append(2, 9, 1) = 1",
            "block(11, 0, 0) = 13", "block(9, 0, 0) = 15", fillBlock(8), "status(2) = 27", "status(3) = 48",
            "append(2, 8, 9) = FULL", "append(1, 8, 9) = REFUSED", "status(2) = 27", "close(2, 4) = 0", "remove(4) = 0",
            "append(2, 8, 9) = 1", "block(8, 1, 0) = 4");
        Script.run("the least block that is in no row",
            "takeover(0) = 1", Script.times(3, "make(2, 0, @) = any"), "append(2, 1, 1) = 1",
            "append(2, 2, 1) = 1", "append(2, 3, 1) = 1", "pass(32) = 6", "close(2, 1) = 0", "remove(1) = 0", "make(2, 0, 7) = 1", "append(2, 1, 3) = 1",
            "block(1, 0, 0) = 0", "block(3, 0, 0) = 2");
    }

    private static String fillBlock(int f) {
        return Script.times(7, "append(2, " + f + ", 1) = any") + "pass(32) = any\npass(32) = any\n";
    }

    private static String twoBlocks(int f) {
        return "append(2, " + f + ", 1) = 1\n" + fillBlock(f) + "append(2, " + f + ", 2) = 1\npass(32) = 2\n";
    }

    private static void lost() {
        Script.run("a lost BLOCK leaves its replicas",
            OPEN_FILE, "power(1, 0, down) = true", "power(1, 2, down) = true", "append(2, 1, 5) = LOST", "status(0) = NONE",
            "status(3) = 3", Script.times(3, "replica(@, 0, *) = 2049 0"), "journal(1, 1, *) = 1 1 1 0 0",
            "journal(1, -1, 0) = 2", "journal(0, -1, *) = 1 1 0 0",
            "power(1, 0, up) = true", "power(1, 2, up) = true", "power(1, 1, down) = true", "takeover(1) = 2",
            "node(1, *) = 2 0 2 0 0", "append(2, 1, 6) = 1", "block(1, 0, *) = 0 4097 25 0 0", "replica(1, 0, 0) = 2049");
        Script.run("a lost STAMP leaves the cut replicas, which are still good",
            OPEN_FILE, "append(2, 1, 5) = 1", "append(2, 1, 6) = 2", "pass(1) = 1", "power(0, 2, down) = true",
            "power(1, 0, down) = true", "power(1, 2, down) = true", "append(2, 1, 7) = LOST", "replica(0, 0, *) = 2050 1",
            "replica(1, 0, *) = 2050 1", "replica(2, 0, *) = 2049 0", "power(1, 0, up) = true", "power(1, 2, up) = true",
            "power(1, 1, down) = true", "power(0, 2, up) = true", "takeover(0) = 2", "status(2) = 2",
            "block(1, 0, *) = 0 2049 3 1 0", "append(2, 1, 8) = 2");
        Script.run("of two records the first one is lost, and the second is not written",
            OPEN_FILE, FILL, "power(0, 0, down) = true", "power(1, 0, down) = true", "power(1, 1, down) = true",
            "append(2, 1, 9) = LOST", "journal(2, -1, 0) = 3", "journal(2, 2, *) = 1 2 0 0 0", "status(3) = 3");
    }
}
