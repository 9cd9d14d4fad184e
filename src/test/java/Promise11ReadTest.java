public final class Promise11ReadTest {
    public static void main(String[] args) {
        Script.run("no master", "read(0, 0) = NOUNIT", "takeover(0) = 1", "make(2, 0, 0) = 1", "append(2, 1, 5) = 1", "pass(2) = 2",
            "read(1, 0) = 5", "power(2, 0, down) = true", "read(1, 0) = NOUNIT");
        Script.run("there is none",
            "takeover(0) = 1", "make(2, 0, 0) = 1", "make(-1, 0, 1) = 2", "append(2, 1, 5) = 1", "pass(2) = 2", "read(1, 1) = NOUNIT",
            "read(1, 7) = NOUNIT", "read(1, 8) = NOUNIT", "read(1, -1) = NOUNIT", "read(1, -8) = NOUNIT", "read(1, 2147483647) = NOUNIT",
            "read(1, -2147483648) = NOUNIT", "read(0, 0) = NOUNIT", "read(2, 0) = NOUNIT", "read(3, 0) = NOUNIT",
            "read(-1, 0) = NOUNIT", "read(12, 0) = NOUNIT");
        Script.run("all good replicas must have it",
            "takeover(0) = 1", "make(2, 0, 0) = 1", "append(2, 1, 5) = 1", "read(1, 0) = NOUNIT", "pass(1) = 1", "read(1, 0) = NOUNIT",
            "power(0, 2, down) = true", "read(1, 0) = 5", "power(0, 0, down) = true", "read(1, 0) = 5", "power(0, 2, up) = true",
            "read(1, 0) = NOUNIT", "power(0, 1, down) = true", "power(0, 2, down) = true", "read(1, 0) = NOUNIT");
        Script.run("all blocks of the row",
            "takeover(0) = 1", "make(2, 0, 0) = 1", Script.times(8, "append(2, 1, 1@) = any"), "pass(32) = 16",
            Script.times(8, "append(2, 1, 2@) = any"), "pass(32) = 16", "append(2, 1, 30) = 1", "pass(2) = 2",
            Script.times(8, "read(1, @) = 1@"), "read(1, 8) = 20", "read(1, 9) = 21", "read(1, 15) = 27", "read(1, 16) = 30",
            "read(1, 17) = NOUNIT", "read(1, 23) = NOUNIT", "read(1, 24) = NOUNIT",
            "power(0, 0, down) = true", "power(0, 3, down) = true", "power(0, 4, down) = true", "read(1, 0) = 10",
            "read(1, 8) = NOUNIT", "read(1, 16) = 30", "close(2, 1) = 0", "read(1, 16) = 30", "node(1, 4) = 8");
        laterReplicasOfClosedFiles();
        oldReplicas();
        Script.end();
    }

    // A lost renewal leaves replicas with a later stamp; a file closed without them is no longer than its CLOSE says.
    private static void laterReplicasOfClosedFiles() {
        Script.run("not behind the units of CLOSE",
            "takeover(0) = 1", "make(2, 0, 0) = 1", Script.times(4, "append(2, 1, 1@) = any"), "pass(5) = 5",
            "power(0, 2, down) = true", "power(1, 0, down) = true", "power(1, 1, down) = true", "append(2, 1, 15) = LOST",
            "replica(0, 0, *) = 2050 4", "power(1, 0, up) = true", "power(1, 1, up) = true", "power(1, 2, down) = true",
            "power(0, 0, down) = true", "power(0, 1, down) = true", "power(0, 2, up) = true", "takeover(0) = 2",
            "block(1, 0, *) = 0 2049 4 1 0", "close(2, 1) = 0", "journal(0, 2, *) = 2 3 1 1 0", "node(1, 4) = 1",
            "power(0, 0, up) = true", "power(0, 1, up) = true", "block(1, 0, *) = 0 2049 3 4 0", "read(1, 0) = 10",
            "read(1, 1) = NOUNIT", "node(1, 4) = 1");
    }

    private static void oldReplicas() {
        Script.run("replicas left behind tell nothing",
            "takeover(0) = 1", "make(2, 0, 0) = 1", "append(2, 1, 5) = 1", "append(2, 1, 6) = 2", "pass(3) = 3",
            "power(0, 0, down) = true", "append(2, 1, 7) = 2", "pass(9) = 1", "read(1, 0) = 5", "read(1, 1) = 7",
            "power(0, 0, up) = true", "read(1, 1) = 7", "power(0, 1, down) = true", "power(0, 2, down) = true",
            "replica(0, 0, *) = 2049 2", "read(1, 0) = NOUNIT", "node(1, 4) = 0", "block(1, 0, *) = 0 2050 0 NONE 0");
    }
}
