/** The edges that promise 5 names, sentence by sentence. */
public final class Edges05AppendTest {
    // Block 0, the last of file 1, has 8 units on data nodes 0 and 1 and 7 on 2.
    private static final String EIGHT_EIGHT_SEVEN = Setup.FILE + Setup.units(8) + "pass(15) = 15\nreplica(2, 0, 1) = 7\n";

    public static void main(String[] args) {
        whoseFile();
        noGoodReplica();
        hanging();
        eightUnits();
        newBlocks();
        whenThereIsNoNewBlock();
        whichBlock();
        whichDataNodes();
        theNewReplicas();
        theUnit();
        lost();
        Script.end();
    }

    private static void whoseFile() {
        Script.sentence("Client c adds a unit v to FILE f, which is OPEN for it.");
        Script.run("another client", Setup.FILE, "append(1, 1, 5) = REFUSED", "append(3, 1, 5) = REFUSED", "status(2) = 1");
        Script.run("a client too small", Setup.FILE, "append(-1, 1, 5) = REFUSED", "append(-2147483648, 1, 5) = REFUSED", "status(2) = 1");
        Script.run("a client too large", Setup.FILE, "append(4, 1, 5) = REFUSED", "append(2147483647, 1, 5) = REFUSED", "status(2) = 1");
        Script.run("the least and the greatest client", "takeover(0) = 1", "make(0, 0, 0) = 1", "make(3, 0, 1) = 2", "append(0, 1, 5) = 1",
            "append(3, 2, 5) = 1");
        Script.run("a file too small", Setup.FILE, "append(2, -1, 5) = REFUSED", "append(2, -2147483648, 5) = REFUSED");
        Script.run("a file too large", Setup.FILE, "append(2, 12, 5) = REFUSED", "append(2, 2147483647, 5) = REFUSED");
        Script.run("an absent one", Setup.FILE, "append(2, 2, 5) = REFUSED", "append(2, 11, 5) = REFUSED");
        Script.run("a removed one", Setup.FILE, "close(2, 1) = 0", "remove(1) = 0", "append(2, 1, 5) = REFUSED");
        Script.run("a directory", "takeover(0) = 1", "make(-1, 0, 0) = 1", "append(2, 1, 5) = REFUSED", "append(-1, 1, 5) = REFUSED", "status(2) = 1");
        Script.run("the root", "takeover(0) = 1", "append(2, 0, 5) = REFUSED", "append(-1, 0, 5) = REFUSED");
        Script.run("a closed file", Setup.FILE, "close(2, 1) = 0", "append(2, 1, 5) = REFUSED", "append(-1, 1, 5) = REFUSED", "status(2) = 2");
    }

    private static void noGoodReplica() {
        Script.sentence("If it has a block: REFUSED without a GOOD replica of the last one;");
        Script.run("all are DOWN", Setup.FILE, "append(2, 1, 5) = 1", Setup.down(0, 1, 2), "append(2, 1, 6) = REFUSED", "status(2) = 2", "status(3) = 3");
        Script.run("all data nodes are DOWN", Setup.FILE, "append(2, 1, 5) = 1", Setup.down(0, 1, 2, 3, 4), "append(2, 1, 6) = REFUSED", "status(2) = 2");
        Script.run("those that are UP were left behind", Setup.FILE, "append(2, 1, 5) = 1", Setup.down(0), "append(2, 1, 6) = 1", Setup.up(0),
            Setup.down(1, 2), "append(2, 1, 7) = REFUSED", "replica(0, 0, *) = 2049 1", "status(2) = 3");
        Script.run("of the last one, not of the one before", Setup.FILE, Setup.FILL, "append(2, 1, 5) = 1", "block(1, 0, 2) = 7", "block(1, 1, 2) = 25",
            Setup.down(1, 2), "append(2, 1, 6) = 2");
        Script.run("of the last one, though the one before has some", Setup.FILE, Setup.FILL, "append(2, 1, 5) = 1", Setup.down(0, 3, 4),
            "block(1, 0, 2) = 6", "append(2, 1, 6) = REFUSED");
        Script.run("one is enough", Setup.FILE, "append(2, 1, 5) = 1", Setup.down(0, 1), "append(2, 1, 6) = 1", "replica(2, 0, *) = 2050 1");
    }

    private static void hanging() {
        Script.sentence("if this HANGS it is RENEWED;");
        Script.run("a replica is DOWN", Setup.FILE, Setup.units(3), "pass(4) = 4", Setup.down(0), "append(2, 1, 20) = 2", "journal(0, 2, *) = 1 2 0 0 0",
            "replica(1, 0, *) = 2050 2", "replica(2, 0, *) = 2050 1", "replica(0, 0, *) = 2049 3");
        Script.run("it hangs no more", Setup.FILE, "append(2, 1, 5) = 1", Setup.down(0), "append(2, 1, 6) = 1", "append(2, 1, 7) = 2", "status(2) = 3");
        Script.run("it does not hang", Setup.FILE, "append(2, 1, 5) = 1", Setup.down(3, 4), "append(2, 1, 6) = 2", "status(2) = 2",
            "replica(0, 0, 0) = 2049");
        Script.run("without units", Setup.FILE, "append(2, 1, 5) = 1", Setup.down(0), "append(2, 1, 6) = 1", "replica(1, 0, *) = 2050 1",
            "replica(2, 0, *) = 2050 0");
        Script.run("the block before the last one hangs", Setup.FILE, Setup.FILL, "append(2, 1, 5) = 1", Setup.down(1), "block(1, 0, 4) = 1",
            "block(1, 1, 4) = 0", "append(2, 1, 6) = 2", "status(2) = 3");
    }

    private static void eightUnits() {
        Script.sentence("else REFUSED if the FIRST has 8 units and another GOOD one has not.");
        Script.run("the last one lacks one", EIGHT_EIGHT_SEVEN, "append(2, 1, 9) = REFUSED", "status(2) = 2", "replica(0, 0, 1) = 8");
        Script.run("the others have none", Setup.FILE, Setup.units(8), "append(2, 1, 9) = REFUSED", "status(2) = 2");
        Script.run("the FIRST has 7", Setup.FILE, Setup.units(7), "append(2, 1, 9) = 8");
        Script.run("one that is not GOOD lacks some", Setup.FILE, "append(2, 1, 5) = 1", Setup.down(2), Setup.units(8), "pass(32) = 8", Setup.up(2),
            "replica(2, 0, *) = 2049 0", "append(2, 1, 9) = 1", "node(1, 3) = 2");
        Script.run("not so if it hangs", EIGHT_EIGHT_SEVEN, Setup.down(1), "append(2, 1, 9) = 8", "replica(0, 0, *) = 2050 8", "status(2) = 3");
        Script.run("not so if the one that lacks it is DOWN", EIGHT_EIGHT_SEVEN, Setup.down(2), "append(2, 1, 9) = 1", "node(1, 3) = 2", "status(2) = 4");
    }

    private static void newBlocks() {
        Script.sentence("If it has none, or (then) all GOOD replicas of the last one have 8 units, it gets a new block:");
        Script.run("it has none", Setup.FILE, "node(1, 3) = 0", "append(2, 1, 5) = 1", "node(1, 3) = 1");
        Script.run("7 units", Setup.FILE, Setup.units(7), "pass(32) = 14", "append(2, 1, 9) = 8", "node(1, 3) = 1", "status(2) = 2");
        Script.run("8 units", Setup.FILE, Setup.FILL, "append(2, 1, 9) = 1", "node(1, 3) = 2", "status(2) = 3");
        Script.run("8 units when it was renewed", Setup.FILE, Setup.FILL, Setup.down(0), "append(2, 1, 9) = 1", "node(1, 3) = 2", "status(2) = 4",
            "block(1, 0, 1) = 2050", "block(1, 1, 1) = 2051");
        Script.run("7 units when it was renewed", EIGHT_EIGHT_SEVEN, Setup.down(0), "append(2, 1, 9) = 8", "node(1, 3) = 1", "status(2) = 3");
        Script.run("8 units in the only GOOD one", Setup.FILE, Setup.units(8), Setup.down(1, 2), "append(2, 1, 9) = 1", "node(1, 3) = 2");
    }

    private static void whenThereIsNoNewBlock() {
        Script.sentence("REFUSED if it has 3 or no data node is UP;");
        Script.run("it has 2", Setup.FILE, Setup.FILL, Setup.FILL, "append(2, 1, 9) = 1", "node(1, 3) = 3");
        Script.run("it has 3 and 24 units", Setup.FILE, Setup.FILL, Setup.FILL, Setup.FILL, "append(2, 1, 9) = REFUSED", "status(2) = 4", "status(3) = 9");
        Script.run("it has 3 and 23 units", Setup.FILE, Setup.FILL, Setup.FILL, Setup.units(7), "append(2, 1, 9) = 8", "status(2) = 4");
        Script.run("it has 3 and would be renewed", Setup.FILE, Setup.FILL, Setup.FILL, Setup.FILL, "block(1, 2, 2) = 14", Setup.down(1),
            "append(2, 1, 9) = REFUSED", "status(2) = 4", "replica(2, 2, *) = 2051 8");
        Script.run("no data node is UP", Setup.FILE, Setup.down(0, 1, 2, 3, 4), "append(2, 1, 5) = REFUSED", "status(2) = 1", "status(3) = 0");
        Script.run("one data node is UP", Setup.FILE, Setup.down(0, 1, 2, 3), "append(2, 1, 5) = 1", "block(1, 0, 2) = 16");

        Script.sentence("FULL also if all 16 are in rows of FILES;");
        Script.run("no block is left", Setup.SIXTEEN_BLOCKS, "make(2, 0, 7) = 11", "append(2, 11, 5) = FULL", "node(11, 3) = 0", "status(2) = 27",
            "status(3) = 16");
        Script.run("units still have room", Setup.SIXTEEN_BLOCKS, "append(2, 10, 6) = 2");
        Script.run("one block is left", Setup.FIFTEEN_BLOCKS, "make(2, 0, 7) = 10", "append(2, 10, 5) = 1", "block(10, 0, 0) = 15");
        Script.run("blocks that are in a row no more", Setup.SIXTEEN_BLOCKS, "make(2, 0, 7) = 11", "append(2, 11, 5) = FULL", "close(2, 4) = 0", "remove(4) = 0",
            "append(2, 11, 5) = 1");
        Script.run("REFUSED comes before it", Setup.SIXTEEN_BLOCKS, "make(2, 0, 7) = 11", Setup.down(0), "append(2, 11, 5) = REFUSED",
            "append(1, 11, 5) = REFUSED");
        Script.run("it comes before LOST", Setup.SIXTEEN_BLOCKS, "make(2, 0, 7) = 11", Setup.ONLY_JOURNAL_0, "append(2, 11, 5) = FULL", "status(0) = 0",
            "journal(1, -1, 2) = 1");
        Script.run("it comes before a renewal", Setup.FIFTEEN_BLOCKS, Setup.up(1), "make(2, 0, 7) = 10", Script.times(8, "append(2, 10, @) = any"),
            "pass(32) = 8", Setup.down(1), "block(10, 0, *) = 15 2073 1 8 1", "append(2, 10, 9) = FULL", "replica(0, 15, *) = 2073 8", "status(2) = 26");
    }

    private static void whichBlock() {
        Script.sentence("the least that is in none;");
        Script.run("the first", Setup.FILE, "append(2, 1, 5) = 1", "block(1, 0, 0) = 0", "journal(0, 1, *) = 1 1 1 0 0");
        Script.run("the next", Setup.FILE, "append(2, 1, 5) = 1", "make(0, 0, 1) = 2", "append(0, 2, 5) = 1", "block(2, 0, 0) = 1");
        Script.run("the last", Setup.FIFTEEN_BLOCKS, "make(2, 0, 7) = 10", "append(2, 10, 5) = 1", "block(10, 0, 0) = 15");
        Script.run("one that was taken out, though it has replicas", Setup.FILE, "append(2, 1, 5) = 1", "make(0, 0, 1) = 2", "append(0, 2, 5) = 1",
            "close(-1, 1) = 0", "node(1, 3) = 0", "make(0, 0, 2) = 3", "append(0, 3, 5) = 1", "block(3, 0, 0) = 0", "make(0, 0, 3) = 4",
            "append(0, 4, 5) = 1", "block(4, 0, 0) = 2");
        Script.run("one of a file that was removed", Setup.FILE, "append(2, 1, 5) = 1", "pass(2) = 2", "close(2, 1) = 0", "make(0, 0, 1) = 2",
            "append(0, 2, 5) = 1", "block(2, 0, 0) = 1", "remove(1) = 0", "make(0, 0, 2) = 1", "append(0, 1, 5) = 1", "block(1, 0, 0) = 0");
    }

    private static void whichDataNodes() {
        Script.sentence("three UP data nodes (all, if there are fewer), those with the least LOADS, of equal ones the least,");
        Script.run("five are UP", Setup.FILE, "append(2, 1, 5) = 1", "block(1, 0, 2) = 7", "status(3) = 3");
        Script.run("just three are UP", Setup.FILE, Setup.down(0, 2), "append(2, 1, 5) = 1", "block(1, 0, 2) = 26", "status(3) = 3");
        Script.run("two are UP", Setup.FILE, Setup.down(0, 2, 4), "append(2, 1, 5) = 1", "block(1, 0, 2) = 10", "status(3) = 2");
        Script.run("one is UP", Setup.FILE, Setup.down(0, 1, 2, 4), "append(2, 1, 5) = 1", "block(1, 0, 2) = 8", "status(3) = 1");
        Script.run("the least loads", Setup.FILE, "append(2, 1, 5) = 1", "make(0, 0, 1) = 2", "append(0, 2, 5) = 1", "block(2, 0, 2) = 25");
        Script.run("a load that is one greater", Setup.FILE, Setup.down(1, 2, 3, 4), "append(2, 1, 5) = 1", Setup.up(1, 2, 3, 4), "make(0, 0, 1) = 2",
            "append(0, 2, 5) = 1", "block(2, 0, 2) = 14");
        Script.run("all equal again", Setup.FILE, Setup.down(3, 4), "append(2, 1, 5) = 1", Setup.up(3, 4), Setup.down(0, 1, 2), "make(0, 0, 1) = 2",
            "append(0, 2, 5) = 1", "block(2, 0, 2) = 24", Setup.up(0, 1, 2), "make(0, 0, 2) = 3", "append(0, 3, 5) = 1", "block(3, 0, 2) = 7");
        Script.run("a DOWN one with the least load", Setup.FILE, Setup.down(3, 4), "append(2, 1, 5) = 1", "make(0, 0, 1) = 2", "append(0, 2, 5) = 1",
            "block(2, 0, 2) = 7");
    }

    private static void theNewReplicas() {
        Script.sentence("get a replica of it (in place of one of this block), with the stamp that the next record will have, without units; "
            + "then BLOCK is written.");
        Script.run("without units but for the FIRST", Setup.FILE, "append(2, 1, 5) = 1", "replica(0, 0, *) = 2049 1", "replica(1, 0, *) = 2049 0",
            "replica(2, 0, *) = 2049 0");
        Script.run("in place of one with units", Setup.FILE, Setup.units(3), "pass(6) = 6", "close(2, 1) = 0", "remove(1) = 0", Setup.down(3, 4),
            "make(2, 0, 0) = 1", "append(2, 1, 7) = 1", "block(1, 0, *) = 0 2053 7 0 0", "replica(0, 0, *) = 2053 1", "replica(2, 0, *) = 2053 0",
            "status(3) = 3", "pass(2) = 2", "read(1, 0) = 7", "read(1, 1) = NOUNIT");
        Script.run("a replaced one counts for the load before", Setup.FILE, "append(2, 1, 5) = 1", "close(-1, 1) = 0", "make(2, 0, 1) = 2",
            "append(2, 2, 5) = 1", "block(2, 0, *) = 0 2053 25", "replica(1, 0, 0) = 2050", "status(3) = 5");
        Script.run("the stamp behind a renewal", Setup.FILE, Setup.FILL, Setup.down(0), "append(2, 1, 9) = 1", "replica(1, 0, 0) = 2050",
            "replica(1, 1, 0) = 2051", "journal(0, 3, *) = 1 1 1 1 0");
        Script.run("the stamp of a later epoch", Setup.FILE, "takeover(0) = 2", "append(2, 1, 5) = 1", "replica(0, 0, 0) = 4097", "journal(0, 1, 0) = 2");
    }

    private static void theUnit() {
        Script.sentence("At last the FIRST of the last block gets v behind its units: how many it has then.");
        Script.run("the first unit", Setup.FILE, "append(2, 1, 5) = 1", "replica(0, 0, 1) = 1", "replica(1, 0, 1) = 0");
        Script.run("the eighth unit", Setup.FILE, Setup.units(7), "append(2, 1, 5) = 8", "replica(0, 0, 1) = 8");
        Script.run("the first unit of the next block", Setup.FILE, Setup.FILL, "append(2, 1, 5) = 1", "replica(0, 1, 1) = 1", "replica(0, 0, 1) = 8");
        Script.run("the FIRST is not on data node 0", Setup.FILE, Setup.down(0, 1), "append(2, 1, 5) = 1", "replica(2, 0, 1) = 1", "replica(3, 0, 1) = 0");
        Script.run("the least and the greatest int", Setup.FILE, Setup.down(1, 2, 3, 4), "append(2, 1, -2147483648) = 1", "append(2, 1, 2147483647) = 2",
            "read(1, 0) = -2147483648", "read(1, 1) = 2147483647");
        Script.run("behind the units that a renewal left", Setup.FILE, Setup.units(3), "pass(4) = 4", Setup.down(0), "append(2, 1, 20) = 2", "pass(1) = 1",
            "read(1, 0) = 10", "read(1, 1) = 20", "read(1, 2) = NOUNIT");
    }

    private static void lost() {
        Script.sentence("all these change nothing; then LOST.");
        Script.run("the BLOCK", Setup.FILE, Setup.ONLY_JOURNAL_0, "append(2, 1, 5) = LOST", "status(0) = NONE", "status(3) = 3",
            Script.times(3, "replica(@, 0, *) = 2049 0"), "journal(0, 1, *) = 1 1 1 0 0", "journal(1, -1, *) = 1 1 0 0");
        Script.run("the STAMP", Setup.FILE, Setup.units(2), "pass(1) = 1", Setup.down(2), Setup.ONLY_JOURNAL_0, "append(2, 1, 5) = LOST",
            "replica(0, 0, *) = 2050 1", "replica(1, 0, *) = 2050 1", "journal(0, 2, *) = 1 2 0 0 0");
        Script.run("the STAMP before the BLOCK", Setup.FILE, Setup.FILL, Setup.down(0), Setup.ONLY_JOURNAL_0, "append(2, 1, 9) = LOST",
            "journal(0, -1, 0) = 3", "status(3) = 3", "replica(1, 0, *) = 2050 8");
        Script.run("without a record nothing is lost", Setup.FILE, "append(2, 1, 5) = 1", Setup.ONLY_JOURNAL_0, "append(2, 1, 6) = 2", "status(0) = 0",
            "journal(1, -1, 2) = 1");
    }
}
