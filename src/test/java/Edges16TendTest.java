/** The edges that promise 16 names, sentence by sentence. */
public final class Edges16TendTest {
    // File 1 is closed, with two units in block 0 on the data nodes 0, 1 and 2.
    private static final String CLOSED = Setup.FILE + Setup.units(2) + "pass(4) = 4\nclose(2, 1) = 0\n";

    public static void main(String[] args) {
        noMaster();
        whichBlocks();
        whichDataNode();
        theCopy();
        drops();
        refused();
        Script.end();
    }

    private static void noMaster() {
        Script.sentence("NONE if no master is ACTIVE.");
        Script.run("at first", "tend(-1) = NONE", "tend(0) = NONE", "tend(4) = NONE");
        Script.run("the master went DOWN", CLOSED, Setup.down(0), "power(2, 0, down) = true", "tend(-1) = NONE", "status(3) = 3");
        Script.run("the master went DOWN, and there is something to drop", CLOSED, "remove(1) = 0", "power(2, 0, down) = true", "tend(0) = NONE", "status(3) = 3");
    }

    private static void whichBlocks() {
        Script.sentence("d -1: of the blocks in rows, but for last ones of OPEN FILES, that have one or two GOOD replicas, "
            + "while there is an UP data node without a GOOD one, the least:");
        Script.run("there is no block", "takeover(0) = 1", "tend(-1) = NONE");
        Script.run("in no row", CLOSED, "remove(1) = 0", Setup.down(0), "tend(-1) = NONE", "status(3) = 3");
        Script.run("taken out of its row", Setup.FILE, "append(2, 1, 5) = 1", Setup.down(0), "close(2, 1) = 0", "node(1, 3) = 0", "tend(-1) = NONE");
        Script.run("the last of an open file", Setup.FILE, Setup.FILL, Setup.down(0), "tend(-1) = NONE", "status(3) = 3");
        Script.run("not the last of an open file", Setup.FILE, Setup.down(3, 4), Setup.FILL, "append(2, 1, 20) = 1", Setup.down(0), Setup.up(3, 4),
            "tend(-1) = 0", "block(1, 0, 2) = 14", "tend(-1) = NONE");
        Script.run("the last of a closed file", CLOSED, Setup.down(0), "tend(-1) = 0");
        Script.run("no GOOD one", CLOSED, Setup.down(0, 1, 2), "tend(-1) = NONE", "status(3) = 3");
        Script.run("one GOOD one", CLOSED, Setup.down(0, 1), "tend(-1) = 0", "block(1, 0, 2) = 12");
        Script.run("two GOOD ones", CLOSED, Setup.down(0), "tend(-1) = 0", "block(1, 0, 2) = 14");
        Script.run("three GOOD ones", CLOSED, "tend(-1) = NONE", "status(3) = 3");
        Script.run("four GOOD ones", CLOSED, Setup.down(0), "tend(-1) = 0", Setup.up(0), "block(1, 0, 2) = 15", "tend(-1) = NONE", "status(3) = 4");
        Script.run("no UP data node without a GOOD one", CLOSED, Setup.down(0, 3, 4), "tend(-1) = NONE", "status(3) = 3");
        Script.run("the only UP data node has the GOOD one", CLOSED, Setup.down(0, 1, 3, 4), "tend(-1) = NONE", "status(3) = 3");
        String two = CLOSED + "make(2, 0, 1) = 2\nappend(2, 2, 20) = 1\npass(2) = 2\nclose(2, 2) = 0\nblock(2, 0, 2) = 25\n";
        Script.run("the least", two, Setup.down(0), "tend(-1) = 0", "tend(-1) = 1", "tend(-1) = NONE", "status(3) = 8");
        Script.run("the least that needs it", two, Setup.down(3), "tend(-1) = 1", "replica(1, 1, *) = 2052 1", "tend(-1) = NONE");
        Script.run("the least that can have it", two, Setup.down(2, 3, 4), "block(1, 0, 2) = 3", "tend(-1) = 1", "block(2, 0, 2) = 3", "tend(-1) = NONE");
    }

    private static void whichDataNode() {
        Script.sentence("of the UP data nodes without a GOOD one that with the least LOAD, of several the least,");
        Script.run("of several the least", CLOSED, Setup.down(0), "tend(-1) = 0", "replica(3, 0, 0) = 2049", "replica(4, 0, 0) = NONE");
        Script.run("the least load", CLOSED, Setup.down(0, 1, 2, 4), "make(0, 0, 1) = 2", "append(0, 2, 5) = 1", Setup.up(1, 2, 4), "tend(-1) = 0",
            "replica(4, 0, 0) = 2049", "replica(3, 0, 0) = NONE");
        Script.run("not a DOWN one", CLOSED, Setup.down(0, 3), "tend(-1) = 0", "replica(4, 0, 0) = 2049");
        Script.run("not one that has a GOOD one, though its load is the least", CLOSED, "make(0, 0, 1) = 2", "append(0, 2, 5) = 1", "block(2, 0, 2) = 25",
            Setup.down(0, 1), "tend(-1) = 0", "block(1, 0, 2) = 12");
    }

    private static void theCopy() {
        Script.sentence("gets a replica (in place of one of this block) with stamp and units of the FIRST: the block's number, NONE if there is none.");
        Script.run("stamp and units", CLOSED, Setup.down(0, 1), "tend(-1) = 0", "replica(3, 0, *) = 2049 2", Setup.down(2), "read(1, 0) = 10", "read(1, 1) = 11",
            "read(1, 2) = NOUNIT");
        Script.run("of another block than 0", CLOSED, "make(2, 0, 1) = 2", "append(2, 2, 20) = 1", "append(2, 2, 21) = 2", "pass(4) = 4", "close(2, 2) = 0",
            "block(2, 0, *) = 1 2052 25 2", Setup.down(0, 3), "tend(-1) = 0", "tend(-1) = 1", "replica(1, 1, *) = 2052 2", Setup.down(4), "read(2, 0) = 20",
            "read(2, 1) = 21", "read(1, 1) = 11");
        Script.run("8 units", Setup.FILE, Setup.FILL, "close(2, 1) = 0", Setup.down(0, 1, 4), "tend(-1) = 0", "replica(3, 0, *) = 2049 8", Setup.down(2),
            Script.times(8, "read(1, @) = 5@"));
        Script.run("in place of one left behind", Setup.FILE, Setup.units(3), "pass(6) = 6", Setup.down(0, 3, 4), "append(2, 1, 20) = 4", "pass(1) = 1",
            "close(2, 1) = 0", Setup.up(0), "replica(0, 0, *) = 2049 3", "tend(-1) = 0", "replica(0, 0, *) = 2050 4", "status(3) = 3", "read(1, 3) = 20");
        Script.run("the stamp of the FIRST, which may be later than the block's", Setup.FILE, Setup.units(2), "pass(4) = 4", Setup.down(2), Setup.ONLY_JOURNAL_0,
            "close(-1, 1) = LOST", Setup.WITHOUT_JOURNAL_0, "takeover(0) = 2", "close(2, 1) = 0", "block(1, 0, *) = 0 2049 3 2 0", "tend(-1) = 0",
            "replica(3, 0, *) = 2050 2", "block(1, 0, 2) = 11");
        Script.run("no record is written", CLOSED, Setup.down(0), Setup.ONLY_JOURNAL_0, "tend(-1) = 0", "status(*) = 0 1 3", "journal(1, -1, 2) = 1");
        Script.run("one replica for each call", CLOSED, Setup.down(0, 1), "tend(-1) = 0", "status(3) = 4", "tend(-1) = 0", "status(3) = 5", "tend(-1) = NONE",
            "status(3) = 5");
    }

    private static void drops() {
        Script.sentence("d 0..4: this data node drops its replicas of blocks in no row, and those that are not GOOD: how many;");
        Script.run("no replica", "takeover(0) = 1", Script.times(5, "tend(@) = 0"));
        Script.run("GOOD ones stay", CLOSED, Script.times(5, "tend(@) = 0"), "status(3) = 3");
        Script.run("GOOD ones of open files stay", Setup.FILE, "append(2, 1, 5) = 1", Script.times(5, "tend(@) = 0"), "status(3) = 3");
        Script.run("in no row", CLOSED, "remove(1) = 0", "tend(0) = 1", "replica(0, 0, 0) = NONE", "replica(1, 0, 0) = 2049", "tend(0) = 0");
        Script.run("the least and the greatest data node", Setup.FILE, Setup.down(1, 2, 3), "append(2, 1, 5) = 1", "close(-1, 1) = 0", "tend(0) = 1", "tend(4) = 1",
            "status(3) = 0");
        Script.run("taken out of its row", Setup.FILE, "append(2, 1, 5) = 1", "close(-1, 1) = 0", "block(1, 0, 0) = NONE", "tend(1) = 1", "status(3) = 2");
        Script.run("left behind", Setup.FILE, "append(2, 1, 5) = 1", Setup.down(0), "append(2, 1, 6) = 1", Setup.up(0), "tend(0) = 1", "tend(1) = 0",
            "status(3) = 2");
        Script.run("left behind, and no GOOD one is UP", Setup.FILE, "append(2, 1, 5) = 1", Setup.down(0), "append(2, 1, 6) = 1", Setup.up(0), Setup.down(1, 2),
            "tend(0) = 1", "status(3) = 2");
        Script.run("not left behind while the later ones are DOWN", Setup.FILE, "append(2, 1, 5) = 1", "pass(2) = 2", Setup.down(2), Setup.ONLY_JOURNAL_0,
            "append(2, 1, 6) = LOST", Setup.WITHOUT_JOURNAL_0, "takeover(0) = 2", Setup.up(2), Setup.down(0, 1), "tend(2) = 0", Setup.up(0), "tend(2) = 1");
        Script.run("several", CLOSED, "remove(1) = 0", Setup.down(3, 4), "make(2, 0, 0) = 1", "make(2, 0, 1) = 2", "make(2, 0, 2) = 3", "append(2, 1, 5) = 1",
            "append(2, 2, 5) = 1", "append(2, 3, 5) = 1", "close(-1, 1) = 0", "close(-1, 3) = 0", "tend(0) = 2", "replica(0, 1, 1) = 1", "status(3) = 7");
        Script.run("a dropped one counts for the load no more", CLOSED, "remove(1) = 0", Setup.down(3, 4), "tend(1) = 1", "tend(2) = 1", "status(3) = 1",
            Setup.up(3, 4), "make(0, 0, 0) = 1", "append(0, 1, 5) = 1", "block(1, 0, 2) = 14");
    }

    private static void refused() {
        Script.sentence("REFUSED if it is DOWN, and for another d.");
        Script.run("DOWN", CLOSED, "remove(1) = 0", Setup.down(0), "tend(0) = REFUSED", "replica(0, 0, 0) = 2049", "status(3) = 3");
        Script.run("UP again", CLOSED, "remove(1) = 0", Setup.down(0), Setup.up(0), "tend(0) = 1");
        Script.run("too small", CLOSED, "tend(-2) = REFUSED", "tend(-2147483648) = REFUSED", "status(3) = 3");
        Script.run("too large", CLOSED, "tend(5) = REFUSED", "tend(2147483647) = REFUSED", "status(3) = 3");
    }
}
