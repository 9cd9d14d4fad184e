public final class Promise13BlockTest {
    private static final String TWO_UNITS = "takeover(0) = 1\nmake(2, 0, 0) = 1\nappend(2, 1, 5) = 1\nappend(2, 1, 6) = 2\n";

    public static void main(String[] args) {
        Script.run("no master", "block(1, 0, 0) = NONE", TWO_UNITS, "power(2, 0, down) = true",
            "block(1, 0, *) = NONE NONE NONE NONE NONE NONE");
        Script.run("there is none",
            TWO_UNITS, "block(1, 1, *) = NONE NONE NONE NONE NONE", "block(1, -1, *) = NONE NONE", "block(1, 3, 0) = NONE",
            "block(1, 2147483647, 0) = NONE", "block(0, 0, 0) = NONE", "block(2, 0, 0) = NONE", "block(-1, 0, 0) = NONE",
            "block(12, 0, 0) = NONE", "block(1, 0, 5) = NONE", "block(1, 0, -1) = NONE");
        Script.run("the good replicas and their units",
            TWO_UNITS, "block(1, 0, *) = 0 2049 7 0 0 NONE", "pass(3) = 3", "block(1, 0, *) = 0 2049 7 1 0", "power(0, 2, down) = true",
            "block(1, 0, *) = 0 2049 3 2 1", "power(0, 0, down) = true", "block(1, 0, *) = 0 2049 2 2 1", "power(0, 1, down) = true",
            "block(1, 0, *) = 0 2049 0 NONE 0", "power(0, 2, up) = true", "block(1, 0, *) = 0 2049 4 1 1",
            "power(0, 2, down) = true", "power(0, 0, up) = true", "block(1, 0, *) = 0 2049 1 2 1");
        Script.run("replicas older than the stamp are not good",
            TWO_UNITS, "power(0, 0, down) = true", "append(2, 1, 7) = 1", "power(0, 0, up) = true", "block(1, 0, *) = 0 2050 6 0 0",
            "power(0, 1, down) = true", "block(1, 0, *) = 0 2050 4 0 1", "power(0, 2, down) = true", "block(1, 0, *) = 0 2050 0 NONE 0");
        Script.run("only a replica with the same stamp makes it hang",
            TWO_UNITS, "power(0, 0, down) = true", "block(1, 0, 4) = 1", "append(2, 1, 7) = 1", "block(1, 0, 4) = 0",
            "power(0, 3, down) = true", "block(1, 0, 4) = 0", "power(0, 2, down) = true", "block(1, 0, 4) = 1");
        Script.run("the stamp is that of the log in touch; later replicas are good",
            TWO_UNITS, "power(0, 0, down) = true", "power(1, 0, down) = true", "power(1, 1, down) = true", "append(2, 1, 7) = LOST",
            "power(0, 0, up) = true", "power(1, 0, up) = true", "power(1, 1, up) = true", "power(1, 2, down) = true", "takeover(1) = 2",
            "block(1, 0, *) = 0 2049 6 0 0", "power(1, 2, up) = true", "takeover(1) = 3", "block(1, 0, *) = 0 2050 6 0 0",
            "close(-1, 1) = 0", "block(1, 0, 0) = NONE");
        Script.run("stamps of later epochs",
            TWO_UNITS, "takeover(1) = 2", "block(1, 0, 1) = 2049", "pass(4) = 4", "close(-1, 1) = 0", "block(1, 0, *) = 0 4098 7 2 0",
            "make(1, 0, 1) = 2", "append(1, 2, 3) = 1", "block(2, 0, *) = 1 4101 25 0 0", "fold() = 3", "takeover(1) = 3",
            "block(2, 0, 1) = 4101");
        Script.end();
    }
}
