/** The edges that promise 7 names, sentence by sentence. */
public final class Edges07CloseTest {
    // Block 0 of file 1 has 2 units on data node 0, 2 on 1 and 1 on 2.
    private static final String TWO_TWO_ONE = Setup.FILE + Setup.units(2) + "pass(3) = 3\n";

    public static void main(String[] args) {
        whoseFile();
        noGoodReplica();
        renewed();
        equallyMany();
        theRecord();
        lost();
        Script.end();
    }

    private static void whoseFile() {
        Script.sentence("FILE f, OPEN for client c, or for whomever if c is -1, is closed: 0.");
        Script.run("its client", Setup.FILE, "close(2, 1) = 0", "node(1, 0) = 3");
        Script.run("the least and the greatest client", "takeover(0) = 1", "make(0, 0, 0) = 1", "make(3, 0, 1) = 2", "close(0, 1) = 0", "close(3, 2) = 0");
        Script.run("for whomever", "takeover(0) = 1", Script.times(4, "make(@, 0, @) = any"), "close(-1, 1) = 0", "close(-1, 2) = 0", "close(-1, 3) = 0",
            "close(-1, 4) = 0");
        Script.run("another client", Setup.FILE, "close(1, 1) = REFUSED", "close(3, 1) = REFUSED", "close(0, 1) = REFUSED", "node(1, 0) = 2");
        Script.run("a client too small", Setup.FILE, "close(-2, 1) = REFUSED", "close(-2147483648, 1) = REFUSED", "node(1, 0) = 2");
        Script.run("a client too large", Setup.FILE, "close(4, 1) = REFUSED", "close(2147483647, 1) = REFUSED", "node(1, 0) = 2");
        Script.run("a file too small", Setup.FILE, "close(2, -1) = REFUSED", "close(-1, -1) = REFUSED", "close(-1, -2147483648) = REFUSED");
        Script.run("a file too large", Setup.FILE, "close(2, 12) = REFUSED", "close(-1, 12) = REFUSED", "close(-1, 2147483647) = REFUSED");
        Script.run("an absent one", Setup.FILE, "close(2, 2) = REFUSED", "close(-1, 2) = REFUSED", "close(-1, 11) = REFUSED", "status(2) = 1");
        Script.run("a removed one", Setup.FILE, "close(2, 1) = 0", "remove(1) = 0", "close(2, 1) = REFUSED", "close(-1, 1) = REFUSED", "status(2) = 3");
        Script.run("a directory", "takeover(0) = 1", "make(-1, 0, 0) = 1", "close(0, 1) = REFUSED", "close(-1, 1) = REFUSED", "node(1, 0) = 1");
        Script.run("the root", "takeover(0) = 1", "close(0, 0) = REFUSED", "close(-1, 0) = REFUSED", "node(0, 0) = 1");
        Script.run("closed already", Setup.FILE, "close(2, 1) = 0", "close(2, 1) = REFUSED", "close(-1, 1) = REFUSED", "status(2) = 2");
    }

    private static void noGoodReplica() {
        Script.sentence("If it has a block: REFUSED without a GOOD replica of the last one;");
        Script.run("all are DOWN, for its client", Setup.FILE, "append(2, 1, 5) = 1", "pass(2) = 2", Setup.down(0, 1, 2), "close(2, 1) = REFUSED",
            "node(1, 0) = 2", "status(2) = 2");
        Script.run("all are DOWN, for whomever", Setup.FILE, "append(2, 1, 5) = 1", "pass(2) = 2", Setup.down(0, 1, 2), "close(-1, 1) = REFUSED",
            "node(1, 0) = 2", "status(2) = 2");
        Script.run("those that are UP were left behind", Setup.FILE, "append(2, 1, 5) = 1", Setup.down(0), "append(2, 1, 6) = 1", Setup.up(0),
            Setup.down(1, 2), "close(-1, 1) = REFUSED", "close(2, 1) = REFUSED", "replica(0, 0, *) = 2049 1");
        Script.run("of the last one, not of the one before", Setup.FILE, Setup.FILL, "append(2, 1, 5) = 1", "pass(2) = 2", "block(1, 1, 2) = 25",
            Setup.down(0, 3, 4), "block(1, 0, 2) = 6", "close(-1, 1) = REFUSED");
        Script.run("the one before may have none", Setup.FILE, Setup.down(3, 4), Setup.FILL, Setup.up(3, 4), "append(2, 1, 5) = 1", "pass(2) = 2",
            "block(1, 1, 2) = 25", Setup.down(0, 1, 2), "block(1, 0, 2) = 0", "close(2, 1) = 0", "journal(0, 4, *) = 1 3 1 1 0");
        Script.run("it has no block, and no data node is UP", Setup.FILE, Setup.down(0, 1, 2, 3, 4), "close(2, 1) = 0", "status(2) = 2");
    }

    private static void renewed() {
        Script.sentence("if this HANGS, or c is -1, it is RENEWED;");
        Script.run("it hangs", TWO_TWO_ONE, Setup.down(0), "close(2, 1) = 0", "journal(0, 2, *) = 1 2 0 0 0", "journal(0, 3, *) = 1 3 1 1 0",
            "replica(1, 0, *) = 2050 1", "replica(2, 0, *) = 2050 1", "replica(0, 0, *) = 2049 2");
        Script.run("it hangs, all GOOD ones have as many", TWO_TWO_ONE, Setup.down(2), "close(2, 1) = 0", "status(2) = 4", "replica(0, 0, *) = 2050 2");
        Script.run("it does not hang, but c is -1", TWO_TWO_ONE, "close(-1, 1) = 0", "status(2) = 4", Script.times(3, "replica(@, 0, *) = 2050 1"));
        Script.run("it hangs and c is -1: once", TWO_TWO_ONE, Setup.down(2), "close(-1, 1) = 0", "status(2) = 4", "replica(0, 0, *) = 2050 2");
        Script.run("it does not hang", TWO_TWO_ONE, "pass(1) = 1", Setup.down(3, 4), "close(2, 1) = 0", "status(2) = 3", "replica(0, 0, 0) = 2049");
        Script.run("the block before hangs", Setup.FILE, Setup.FILL, "append(2, 1, 5) = 1", "pass(2) = 2", Setup.down(1), "block(1, 0, 4) = 1",
            "close(2, 1) = 0", "status(2) = 4", "journal(0, 3, *) = 1 3 1 1 0");
        Script.run("without a block there is nothing to renew", Setup.FILE, Setup.down(0), "close(-1, 1) = 0", "status(2) = 2");
    }

    private static void equallyMany() {
        Script.sentence("else REFUSED if not all its GOOD replicas have equally many units.");
        Script.run("one unit is missing in the last", TWO_TWO_ONE, "close(2, 1) = REFUSED", "status(2) = 2", "node(1, 0) = 2",
            "replica(2, 0, *) = 2049 1");
        Script.run("one unit is missing in all but the first", Setup.FILE, "append(2, 1, 5) = 1", "close(2, 1) = REFUSED");
        Script.run("equally many", TWO_TWO_ONE, "pass(1) = 1", "close(2, 1) = 0", "status(2) = 3");
        Script.run("equally many in the GOOD ones", Setup.FILE, "append(2, 1, 5) = 1", Setup.down(2), "append(2, 1, 6) = 1", "pass(1) = 1", Setup.up(2),
            "replica(2, 0, *) = 2049 0", "close(2, 1) = 0", "journal(0, 3, *) = 1 3 1 1 0");
        Script.run("8 everywhere", Setup.FILE, Setup.FILL, "close(2, 1) = 0", "journal(0, 2, *) = 1 3 1 8 0");
        Script.run("8 and 7", Setup.FILE, Setup.units(8), "pass(15) = 15", "close(2, 1) = REFUSED");
    }

    private static void theRecord() {
        Script.sentence("CLOSE is written with that number (0 without a block).");
        Script.run("without a block", Setup.FILE, "close(2, 1) = 0", "journal(0, 1, *) = 1 3 1 0 0");
        Script.run("without a block, for whomever", Setup.FILE, "close(-1, 1) = 0", "journal(0, 1, *) = 1 3 1 0 0");
        Script.run("0 units in a block", Setup.FILE, "append(2, 1, 5) = 1", "close(-1, 1) = 0", "journal(0, 3, *) = 1 3 1 0 0", "node(1, 3) = 0");
        Script.run("1 unit", Setup.FILE, "append(2, 1, 5) = 1", "pass(2) = 2", "close(2, 1) = 0", "journal(0, 2, *) = 1 3 1 1 0");
        Script.run("the fewest after a renewal", TWO_TWO_ONE, "close(-1, 1) = 0", "journal(0, 3, *) = 1 3 1 1 0");
        Script.run("of the last block, not of all", Setup.FILE, Setup.FILL, "append(2, 1, 5) = 1", "pass(2) = 2", "close(2, 1) = 0",
            "journal(0, 3, *) = 1 3 1 1 0");
        Script.run("24 units", Setup.FILE, Setup.FILL, Setup.FILL, Setup.FILL, "close(2, 1) = 0", "journal(0, 4, *) = 1 3 1 8 0", "node(1, 4) = 24");
    }

    private static void lost() {
        Script.sentence("all these change nothing; then LOST.");
        Script.run("the CLOSE", Setup.FILE, Setup.ONLY_JOURNAL_0, "close(2, 1) = LOST", "journal(0, 1, *) = 1 3 1 0 0", "status(0) = NONE");
        Script.run("the STAMP before the CLOSE", TWO_TWO_ONE, Setup.ONLY_JOURNAL_0, "close(-1, 1) = LOST", "journal(0, -1, 0) = 3",
            "journal(0, 2, *) = 1 2 0 0 0", Script.times(3, "replica(@, 0, *) = 2050 1"));
        Script.run("REFUSED comes before it", TWO_TWO_ONE, Setup.ONLY_JOURNAL_0, "close(2, 1) = REFUSED", "status(0) = 0");
    }
}
