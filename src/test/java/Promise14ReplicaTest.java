public final class Promise14ReplicaTest {
    private static final String FILE = "takeover(0) = 1\nmake(2, 0, 0) = 1\nappend(2, 1, 5) = 1\nappend(2, 1, 6) = 2\npass(3) = 3\n";

    public static void main(String[] args) {
        Script.run("stamp and units", FILE, "replica(0, 0, *) = 2049 2 NONE", "replica(1, 0, *) = 2049 2", "replica(2, 0, *) = 2049 1");
        Script.run("there is none, and other questions",
            FILE, "replica(3, 0, *) = NONE NONE", "replica(0, 1, *) = NONE NONE", "replica(0, 15, 0) = NONE", "replica(0, 16, 0) = NONE",
            "replica(0, -1, 0) = NONE", "replica(1, -16, 0) = NONE", "replica(-1, 16, 0) = NONE", "replica(5, 0, 0) = NONE",
            "replica(-1, 0, 0) = NONE", "replica(0, 0, -1) = NONE", "replica(0, 0, 2) = NONE", "replica(2147483647, 0, 0) = NONE",
            "replica(0, -2147483648, 0) = NONE");
        Script.run("of a data node that is down, and without a master",
            FILE, "power(0, 0, down) = true", "replica(0, 0, *) = 2049 2", "power(2, 0, down) = true", "replica(0, 0, *) = 2049 2",
            "replica(2, 0, *) = 2049 1");
        Script.run("of a block that is in no row", FILE, "close(-1, 1) = 0", "remove(1) = 0", "replica(2, 0, *) = 2050 1", "tend(2) = 1",
            "replica(2, 0, *) = NONE NONE", "replica(1, 0, *) = 2050 1");
        Script.end();
    }
}
