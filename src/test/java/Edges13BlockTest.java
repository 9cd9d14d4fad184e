/** The edges that promise 13 names, sentence by sentence. */
public final class Edges13BlockTest {
    private static final String TWO_BLOCKS = Setup.FILE + Setup.FILL + "append(2, 1, 20) = 1\n";

    public static void main(String[] args) {
        facts();
        none();
        Script.end();
    }

    private static void facts() {
        Script.sentence("Of the k-th block of a FILE's row (0 first) what 0: its number; 1: its STAMP;");
        Script.run("the first and the last of three", TWO_BLOCKS, "pass(32) = 2", Script.times(7, "append(2, 1, 3@) = any"), "pass(32) = 14",
            "append(2, 1, 40) = 1", "block(1, 0, *) = 0 2049", "block(1, 1, *) = 1 2050", "block(1, 2, *) = 2 2051");
        Script.run("the position in the row is not the number", Setup.FILE, "append(2, 1, 5) = 1", "make(0, 0, 1) = 2", "append(0, 2, 5) = 1",
            "block(2, 0, *) = 1 2051");
        Script.run("the greatest number", Setup.SIXTEEN_BLOCKS, "block(10, 0, 0) = 15", "block(9, 0, 0) = 14");
        Script.run("the stamp of a renewal", Setup.FILE, "append(2, 1, 5) = 1", Setup.down(0), "append(2, 1, 6) = 1", "block(1, 0, 1) = 2050");
        Script.run("of a closed file", Setup.FILE, "append(2, 1, 5) = 1", "pass(2) = 2", "close(2, 1) = 0", "block(1, 0, *) = 0 2049 7 1 0");

        Script.sentence("2: the sum of 2 to the power d of data nodes with GOOD replicas;");
        Script.run("one on the least data node", Setup.FILE, Setup.down(1, 2, 3, 4), "append(2, 1, 5) = 1", "block(1, 0, 2) = 1");
        Script.run("one on the greatest data node", Setup.FILE, Setup.down(0, 1, 2, 3), "append(2, 1, 5) = 1", "block(1, 0, 2) = 16");
        Script.run("none", Setup.FILE, "append(2, 1, 5) = 1", Setup.down(0, 1, 2), "block(1, 0, 2) = 0");
        Script.run("all five", Setup.FILE, "append(2, 1, 5) = 1", "pass(2) = 2", "close(2, 1) = 0", Setup.down(0, 1), "tend(-1) = 0", "tend(-1) = 0",
            Setup.up(0, 1), "block(1, 0, 2) = 31");

        Script.sentence("3: the least number of units that a GOOD one has, NONE without;");
        Script.run("0", Setup.FILE, "append(2, 1, 5) = 1", "pass(1) = 1", "block(1, 0, 3) = 0");
        Script.run("8", Setup.FILE, Setup.FILL, "block(1, 0, 3) = 8");
        Script.run("the first has the least", Setup.FILE, Setup.units(2), Setup.down(1), "pass(2) = 2", Setup.up(1), Setup.down(0), "block(1, 0, *) = 0 2049 6 0 1");
        Script.run("one that is DOWN has fewer", Setup.FILE, Setup.units(2), "pass(2) = 2", Setup.down(2), "block(1, 0, 3) = 2");
        Script.run("without", Setup.FILE, "append(2, 1, 5) = 1", Setup.down(0, 1, 2), "block(1, 0, 3) = NONE");
        Script.run("without, one was left behind", Setup.FILE, "append(2, 1, 5) = 1", Setup.down(0), "append(2, 1, 6) = 1", Setup.up(0), Setup.down(1, 2),
            "block(1, 0, *) = 0 2050 0 NONE 0");

        Script.sentence("4: 1 if it HANGS, else 0.");
        Script.run("all are UP", Setup.FILE, "append(2, 1, 5) = 1", "block(1, 0, 4) = 0");
        Script.run("one is DOWN", Setup.FILE, "append(2, 1, 5) = 1", Setup.down(0), "block(1, 0, 4) = 1", Setup.up(0), "block(1, 0, 4) = 0");
        Script.run("all are DOWN", Setup.FILE, "append(2, 1, 5) = 1", Setup.down(0, 1, 2), "block(1, 0, 4) = 0");
        Script.run("a block before the last, or of a closed file, hangs, too", TWO_BLOCKS, "pass(2) = 2", "close(2, 1) = 0", Setup.down(1),
            "block(1, 0, 4) = 1", "block(1, 1, 4) = 0");
    }

    private static void none() {
        Script.sentence("NONE if there is none, no master is ACTIVE, or for others.");
        Script.run("behind the last", TWO_BLOCKS, "block(1, 1, 0) = 1", "block(1, 2, *) = NONE NONE NONE NONE NONE", "block(1, 3, 0) = NONE");
        Script.run("too small", TWO_BLOCKS, "block(1, -1, *) = NONE NONE NONE NONE NONE", "block(1, -2147483648, 0) = NONE");
        Script.run("too large", TWO_BLOCKS, "block(1, 2147483647, *) = NONE NONE NONE NONE NONE");
        Script.run("a file without a block", Setup.FILE, "block(1, 0, *) = NONE NONE NONE NONE NONE");
        Script.run("a block taken out", Setup.FILE, "append(2, 1, 5) = 1", "close(-1, 1) = 0", "block(1, 0, *) = NONE NONE NONE NONE NONE");
        Script.run("a directory", TWO_BLOCKS, "make(-1, 0, 1) = 2", "block(2, 0, *) = NONE NONE NONE NONE NONE", "block(0, 0, 0) = NONE");
        Script.run("an absent one", TWO_BLOCKS, "block(2, 0, *) = NONE NONE NONE NONE NONE", "block(11, 0, 0) = NONE");
        Script.run("a removed one", Setup.FILE, "append(2, 1, 5) = 1", "pass(2) = 2", "close(2, 1) = 0", "remove(1) = 0", "block(1, 0, *) = NONE NONE NONE NONE NONE");
        Script.run("a file too small", TWO_BLOCKS, "block(-1, 0, 0) = NONE", "block(-2147483648, 0, 0) = NONE");
        Script.run("a file too large", TWO_BLOCKS, "block(12, 0, 0) = NONE", "block(2147483647, 0, 0) = NONE");
        Script.run("no master at first", "block(1, 0, *) = NONE NONE NONE NONE NONE");
        Script.run("the master went DOWN", TWO_BLOCKS, "power(2, 0, down) = true", "block(1, 0, *) = NONE NONE NONE NONE NONE");
        Script.run("a what too small", TWO_BLOCKS, "block(1, 0, -1) = NONE", "block(1, 0, -2147483648) = NONE");
        Script.run("a what too large", TWO_BLOCKS, "block(1, 0, 5) = NONE", "block(1, 0, 2147483647) = NONE");
    }
}
