public final class Promise06PassTest {
    private static final String FOUR_UNITS = "takeover(0) = 1\nmake(2, 0, 0) = 1\n" + Script.times(4, "append(2, 1, 1@) = any");

    public static void main(String[] args) {
        Script.run("no master", "pass(3) = NONE", "pass(0) = NONE");
        Script.run("other numbers",
            FOUR_UNITS, "pass(33) = REFUSED", "pass(-1) = REFUSED", "pass(-2147483648) = REFUSED",
            "pass(0) = 0", "replica(1, 0, 1) = 0", "pass(32) = 8", "pass(32) = 0");
        Script.run("the least data node first, and unit after unit",
            FOUR_UNITS, "pass(1) = 1", "replica(1, 0, 1) = 1", "replica(2, 0, 1) = 0", "pass(3) = 3", "replica(1, 0, 1) = 4",
            "replica(2, 0, 1) = 0", "pass(2) = 2", "replica(2, 0, 1) = 2", "read(1, 0) = 10", "read(1, 1) = 11",
            "read(1, 2) = NOUNIT", "append(2, 1, 14) = 5", "pass(1) = 1", "replica(1, 0, 1) = 5", "replica(2, 0, 1) = 2",
            "pass(32) = 3", "status(2) = 2");
        Script.run("what is passed is the unit itself, and it goes from the nearest lower one",
            FOUR_UNITS, "pass(4) = 4", "append(2, 1, 14) = 5", "power(0, 1, down) = true", "pass(32) = 5", "replica(1, 0, 1) = 4",
            "replica(2, 0, 1) = 5", "power(0, 1, up) = true", "pass(32) = 1", "replica(1, 0, 1) = 5", "power(0, 0, down) = true",
            Script.times(5, "read(1, @) = 1@"), "read(1, 5) = NOUNIT", "power(0, 1, down) = true",
            Script.times(5, "read(1, @) = 1@"));
        Script.run("the nearest lower one, not the first, sets the measure",
            FOUR_UNITS, "pass(2) = 2", "power(0, 0, down) = true", "pass(32) = 2", "replica(2, 0, 1) = 2", "pass(32) = 0",
            "power(0, 0, up) = true", "pass(1) = 1", "replica(1, 0, 1) = 3", "pass(2) = 2", "replica(1, 0, 1) = 4",
            "replica(2, 0, 1) = 3", "pass(32) = 1");
        Script.run("the least block first, whatever its file's number",
            "takeover(0) = 1", "make(2, 0, 0) = 1", "make(3, 0, 1) = 2", "append(3, 2, 20) = 1", "append(2, 1, 10) = 1",
            "block(2, 0, 0) = 0", "block(1, 0, *) = 1 2051 25", "pass(2) = 2", "block(2, 0, 3) = 1", "replica(3, 1, 1) = 0",
            "append(3, 2, 21) = 2", "pass(3) = 3", "block(2, 0, 3) = 2", "replica(3, 1, 1) = 1", "replica(4, 1, 1) = 0",
            "pass(9) = 1", "read(1, 0) = 10", "read(2, 1) = 21");
        Script.run("replicas that are not good get nothing",
            FOUR_UNITS, "power(0, 2, down) = true", "append(2, 1, 14) = 1", "power(0, 2, up) = true", "block(1, 0, 2) = 3",
            "pass(32) = 1", "replica(2, 0, 1) = 0", "replica(1, 0, 1) = 1", "read(1, 0) = 14");
        Script.run("at most 32 at once",
            "takeover(0) = 1", Script.times(3, "make(0, 0, @) = any"),
            Script.times(8, "append(0, 1, @) = any\nappend(0, 2, @) = any\nappend(0, 3, @) = any"),
            "pass(32) = 32", "block(2, 0, 3) = 8", "block(3, 0, 3) = 0", "pass(32) = 16");
        Script.end();
    }
}
