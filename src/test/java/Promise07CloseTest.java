public final class Promise07CloseTest {
    private static final String THREE_UNITS = "takeover(0) = 1\nmake(2, 0, 0) = 1\n" + Script.times(3, "append(2, 1, 1@) = any");

    public static void main(String[] args) {
        wrongInputs();
        closedByItsClient();
        closedForWhomever();
        fullAndLost();
        Script.end();
    }

    private static void wrongInputs() {
        Script.run("no master", "close(7, 77) = NONE");
        Script.run("refused",
            "takeover(0) = 1", "make(2, 0, 0) = 1", "make(-1, 0, 1) = 2", "close(1, 1) = REFUSED", "close(-2, 1) = REFUSED",
            "close(4, 1) = REFUSED", "close(-1, 2) = REFUSED", "close(-1, 0) = REFUSED", "close(-1, 3) = REFUSED",
            "close(2, -1) = REFUSED", "close(-1, 12) = REFUSED", "status(2) = 2", "close(2, 1) = 0", "close(2, 1) = REFUSED",
            "close(-1, 1) = REFUSED", "status(2) = 3");
        Script.run("no good replica",
            THREE_UNITS, "pass(32) = 6", Script.times(3, "power(0, @, down) = true"), "close(2, 1) = REFUSED",
            "close(-1, 1) = REFUSED", "status(2) = 2");
    }

    private static void closedByItsClient() {
        Script.run("without a block",
            "takeover(0) = 1", "make(2, 0, 0) = 1", "close(2, 1) = 0", "journal(0, 1, *) = 1 3 1 0 0", "node(1, *) = 3 0 NONE 0 0");
        Script.run("only when all good replicas have equally many units",
            THREE_UNITS, "close(2, 1) = REFUSED", "pass(5) = 5", "close(2, 1) = REFUSED", "pass(1) = 1", "close(2, 1) = 0",
            "status(2) = 3", "journal(2, 2, *) = 1 3 1 3 0", "node(1, *) = 3 0 NONE 1 3", "block(1, 0, *) = 0 2049 7 3 0");
        Script.run("a hanging block is renewed",
            THREE_UNITS, "pass(4) = 4", "power(0, 1, down) = true", "close(2, 1) = 0", "journal(0, 2, *) = 1 2 0 0 0",
            "journal(0, 3, *) = 1 3 1 1 0", "replica(0, 0, *) = 2050 1", "replica(1, 0, *) = 2049 3",
            "replica(2, 0, *) = 2050 1", "node(1, 4) = 1", "block(1, 0, *) = 0 2050 5 1 0");
        Script.run("a last block without units is taken out",
            THREE_UNITS, "power(0, 0, down) = true", "close(2, 1) = 0", "journal(0, 3, *) = 1 3 1 0 0", "node(1, *) = 3 0 NONE 0 0",
            "block(1, 0, 0) = NONE", "make(2, 0, 1) = 2", "append(2, 2, 9) = 1", "block(2, 0, *) = 0 2053 26");
        Script.run("then the block before it is the last, and whole",
            "takeover(0) = 1", "make(2, 0, 0) = 1", Script.times(8, "append(2, 1, 1@) = any"), "pass(32) = 16",
            "append(2, 1, 18) = 1", "block(1, 1, 2) = 25", "power(0, 0, down) = true", "close(2, 1) = 0",
            "node(1, *) = 3 0 NONE 1 8", "read(1, 7) = 17", "read(1, 8) = NOUNIT");
    }

    private static void closedForWhomever() {
        Script.run("renewed also if it does not hang, and if units are missing",
            THREE_UNITS, "pass(4) = 4", "close(-1, 1) = 0", "journal(0, 2, *) = 1 2 0 0 0", "journal(0, 3, *) = 1 3 1 1 0",
            Script.times(3, "replica(@, 0, *) = 2050 1"), "node(1, *) = 3 0 NONE 1 1");
        Script.run("without a block nothing is renewed",
            "takeover(0) = 1", "make(3, 0, 0) = 1", "close(-1, 1) = 0", "status(2) = 2", "journal(0, 1, *) = 1 3 1 0 0");
        Script.run("the client itself renews nothing that does not hang",
            THREE_UNITS, "pass(6) = 6", "power(0, 4, down) = true", "close(2, 1) = 0", "status(2) = 3", "replica(0, 0, 0) = 2049");
    }

    private static void fullAndLost() {
        String thirtyNine = THREE_UNITS + "pass(6) = 6\nmake(-1, 0, 6) = 2\n" + Script.times(18, "make(-1, 0, 7) = 3\nremove(3) = 0");
        Script.run("both records must have room",
            thirtyNine, "status(2) = 39", "close(-1, 1) = FULL", "replica(0, 0, *) = 2049 3", "node(1, 0) = 2",
            "power(0, 0, down) = true", "close(2, 1) = FULL", "power(0, 0, up) = true", "close(1, 1) = REFUSED",
            "close(2, 1) = 0", "status(2) = 40");
        Script.run("full with one record",
            thirtyNine, "make(0, 0, 1) = 3", "close(2, 1) = FULL", "close(0, 3) = FULL", "fold() = 3", "close(-1, 1) = 0",
            "status(2) = 42");
        Script.run("the first record is lost",
            THREE_UNITS, "pass(1) = 1", "power(1, 0, down) = true", "power(1, 1, down) = true", "close(-1, 1) = LOST",
            "journal(2, -1, 0) = 3", "journal(2, 2, *) = 1 2 0 0 0", Script.times(3, "replica(@, 0, *) = 2050 0"),
            "status(0) = NONE", "power(1, 0, up) = true", "takeover(0) = 2", "node(1, 0) = 2", "status(2) = 3");
        Script.run("the only record is lost",
            "takeover(0) = 1", "make(2, 0, 0) = 1", "power(1, 0, down) = true", "power(1, 1, down) = true", "close(2, 1) = LOST",
            "journal(2, -1, 0) = 2", "power(1, 0, up) = true", "power(1, 1, up) = true", "power(1, 2, down) = true",
            "takeover(0) = 2", "node(1, 0) = 2", "power(1, 2, up) = true", "takeover(0) = 3", "node(1, 0) = 3");
    }
}
