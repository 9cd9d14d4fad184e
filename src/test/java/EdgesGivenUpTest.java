/**
 * The edges of the section 'Terms' that only a record shows which held for a while, in two journals, and was given up when a
 * master took over with a journal whose last record was of a later epoch.
 */
public final class EdgesGivenUpTest {
    // A file that is closed, with units 10 and 11 in block 0 on the data nodes 0, 1 and 2.
    private static final String CLOSED = Setup.FILE + Setup.units(2) + "pass(4) = 4\nclose(2, 1) = 0\n";
    private static final String OTHER = "make(3, 0, 7)";

    public static void main(String[] args) {
        logs();
        inodes();
        rows();
        twoRecords();
        stamps();
        droppedReplicas();
        Script.end();
    }

    private static void logs() {
        Script.sentence("of their logs that is taken whose last record has the greatest epoch (a log without records: 0),");
        Script.run("two journals agree on an earlier one", Setup.CLOSE_HOLDS, Setup.GIVEN_UP, "status(*) = 0 4 3", "node(1, 0) = 2", "node(2, 0) = 2",
            Script.times(3, "journal(@, 2, *) = 2 0 2 7 3"));
        Script.run("of two journals one has an earlier one", Setup.CLOSE_HOLDS, "power(1, 0, down) = true", Setup.GIVEN_UP, "node(1, 0) = 2",
            "journal(0, -1, *) = 3 3 0 0", "journal(0, 2, *) = 1 3 1 2 0", "journal(1, 2, *) = 2 0 2 7 3", "journal(2, 2, *) = 2 0 2 7 3");
        Script.run("a record behind it is the latest", Setup.CLOSE_HOLDS, "make(0, 0, 6) = 2", Setup.GIVEN_UP, "node(1, 0) = 3", "status(2) = 4",
            "journal(1, 2, *) = 1 3 1 2 0", "journal(1, 3, *) = 3 0 2 6 0");
        Script.run("not the greatest promise", Setup.CLOSE_HOLDS, "takeover(0) = 4", "journal(0, -1, 1) = 4", "journal(1, -1, 1) = 2", Setup.GIVEN_UP,
            "status(1) = 5", "node(1, 0) = 2", "journal(0, 2, *) = 2 0 2 7 3");

        Script.sentence("all UP journals have this log, with its BASE, and are IN TOUCH then, the others are not.");
        Script.run("a base that is less", Setup.CLOSE_HOLDS, "fold() = 2", "journal(0, -1, *) = 3 3 1 3", Setup.GIVEN_UP,
            Script.times(3, "journal(@, -1, *) = 3 4 1 0\njournal(@, 0, *) = 1 0 1 0 2"));
    }

    private static void inodes() {
        Script.sentence("INODES 0..11, while a master is ACTIVE, are what the records (FOLDED ones, too) of the log of those IN TOUCH say:");
        String directory = "takeover(0) = 1\nmake(-1, 0, 0) = 1\n";
        Script.run("MAKE of a file", Setup.holds(directory, "make(2, 1, 3)", "move(1, 0, 7)"), "node(2, *) = 2 11 2", "status(4) = 3", Setup.GIVEN_UP,
            "node(2, 0) = 0", "status(4) = 2", "node(1, *) = 1 7 NONE 0", "append(2, 2, 5) = REFUSED", "make(-1, 1, 3) = 2");
        Script.run("MAKE of a directory", Setup.holds(directory, "make(-1, 1, 3)", "move(1, 0, 7)"), "node(2, *) = 1 11 NONE 0", Setup.GIVEN_UP,
            "node(2, 0) = 0", "make(2, 2, 0) = REFUSED", "remove(1) = 0");
        Script.run("MAKE of another inode with this number", Setup.holds(directory, "make(-1, 1, 3)", "make(3, 0, 6)"), "node(2, *) = 1 11 NONE 0 0",
            Setup.GIVEN_UP, "node(2, *) = 2 6 3 0 0", "node(1, 3) = 0");
        Script.run("CLOSE", Setup.CLOSE_HOLDS, "append(2, 1, 20) = REFUSED", Setup.GIVEN_UP, "node(1, *) = 2 0 2 1 2", "append(2, 1, 20) = 3", "pass(32) = 2",
            "read(1, 2) = 20");
        Script.run("REMOVE", Setup.holds(CLOSED, "remove(1)", OTHER), "node(1, 0) = 0", "read(1, 0) = NOUNIT", Setup.GIVEN_UP, "node(1, *) = 3 0 NONE 1 2",
            "read(1, 1) = 11");
        Script.run("REMOVE of a directory", Setup.holds(directory, "remove(1)", OTHER), "node(1, 0) = 0", Setup.GIVEN_UP, "node(1, *) = 1 0 NONE 0",
            "make(0, 1, 0) = 3");
        Script.run("MOVE", Setup.holds(directory, "move(1, 0, 6)", OTHER), "node(1, 1) = 6", Setup.GIVEN_UP, "node(1, 1) = 0", "node(0, 11) = NONE",
            "node(0, 5) = 1");
        Script.run("folded", Setup.holds(directory, "move(1, 0, 6)", OTHER), "fold() = 2", Setup.GIVEN_UP, "node(1, 1) = 0", "node(2, 1) = 7");
    }

    private static void rows() {
        Script.sentence("BLOCK: the FILE's row of blocks, up to 3, gets block b, 0..15, at its end.");
        Script.run("given up", Setup.holds(Setup.FILE, "append(2, 1, 5)", OTHER), "node(1, 3) = 1", "append(2, 1, 6) = 1", "pass(2) = 2", "read(1, 0) = 6",
            Setup.GIVEN_UP, "node(1, 3) = 0", "read(1, 0) = NOUNIT", "append(2, 1, 7) = 1", "block(1, 0, *) = 0 8194 25");
        Script.run("the block before it is the last again", Setup.holds(Setup.FILE + Setup.FILL, "append(2, 1, 5)", OTHER), "node(1, 3) = 2",
            "append(2, 1, 6) = 1", "status(2) = 3", Setup.GIVEN_UP, "node(1, *) = 2 0 2 1 8", "append(2, 1, 7) = 1", "node(1, 3) = 2",
            "block(1, 1, 1) = 8195");

        Script.sentence("CLOSE: it is CLOSED; if b is 0 its last block, if it has one, is taken out of its row.");
        // The BLOCK record is lost before a unit is added, but not given up: the block has no units.
        String noUnits = Setup.FILE + Setup.ONLY_JOURNAL_0 + "append(2, 1, 5) = LOST\npower(1, 1, up) = true\npower(1, 2, up) = true\ntakeover(0) = 2\n";
        Script.run("0 given up", Setup.holds(noUnits, "close(2, 1)", OTHER), "node(1, *) = 3 0 NONE 0 0", Setup.GIVEN_UP, "node(1, *) = 2 0 2 1 0",
            "append(2, 1, 6) = 1", "block(1, 0, *) = 0 2049 7");
    }

    // Journal 0 gets MAKE in epoch 1 and BLOCK in epoch 3, journal 1 a MOVE in epoch 2 and another one in epoch 4.
    private static void twoRecords() {
        Script.sentence("REMOVE: it is ABSENT.");
        String both = Setup.holds("takeover(0) = 1\nmake(-1, 0, 0) = 1\n", "make(2, 1, 3)", "move(1, 0, 7)")
            + "power(1, 2, down) = true\nappend(2, 2, 5) = LOST\npower(1, 0, down) = true\npower(1, 1, up) = true\npower(1, 2, up) = true\n"
            + "takeover(0) = 4\nnode(1, 1) = 7\nnode(2, 0) = 0\npower(1, 2, down) = true\nmove(1, 0, 6) = LOST\npower(1, 1, down) = true\n"
            + "power(1, 0, up) = true\npower(1, 2, up) = true\ntakeover(0) = 5\n";
        Script.run("a file that was never made has no blocks", both, "node(2, *) = 2 11 2 1 0", "node(1, 1) = 0", "block(2, 0, *) = 0 6146 7", Setup.GIVEN_UP,
            "node(2, 0) = 0", "node(1, 1) = 6", "tend(0) = 1", "make(3, 0, 0) = 2", "append(3, 2, 5) = 1", "block(2, 0, 0) = 0");
    }

    private static void stamps() {
        Script.sentence("A block's STAMP is that of its latest BLOCK or STAMP record: 2048 * the record's epoch + its number.");
        String renewed = Setup.holds(Setup.FILE + Setup.units(2) + "pass(4) = 4\n", "close(-1, 1)", OTHER);
        Script.run("STAMP given up", renewed, "block(1, 0, 1) = 2050", Setup.GIVEN_UP, "block(1, 0, 1) = 2049", "replica(0, 0, *) = 2050 2");
        String leftBehind = Setup.holds(Setup.FILE + Setup.units(2) + "pass(4) = 4\n" + Setup.down(2), "append(2, 1, 5)", OTHER) + Setup.up(2)
            + Setup.down(0, 1);
        Script.run("one left behind is GOOD again", leftBehind, "block(1, 0, *) = 0 2050 0 NONE 0", Setup.GIVEN_UP, "block(1, 0, *) = 0 2049 4 2 0",
            "append(2, 1, 20) = 3");
    }

    private static void droppedReplicas() {
        Script.sentence("GOOD ones of a block are those on UP data nodes with the greatest stamp that any on an UP one has, "
            + "if that is not less than the block's STAMP;");
        String removed = Setup.holds(CLOSED, "remove(1)", OTHER);
        Script.run("one is dropped", removed, "tend(0) = 1", Setup.GIVEN_UP, "block(1, 0, *) = 0 2049 6 2 0", "read(1, 0) = 10", "replica(0, 0, 0) = NONE");
        Script.run("all are dropped", removed, Script.times(3, "tend(@) = 1"), Setup.GIVEN_UP, "block(1, 0, *) = 0 2049 0 NONE 0", "read(1, 0) = NOUNIT",
            "tend(-1) = NONE");
        Script.run("one is dropped, and comes back", removed, "tend(0) = 1", Setup.GIVEN_UP, Setup.down(3, 4), "tend(-1) = 0", "block(1, 0, 2) = 7",
            "replica(0, 0, *) = 2049 2");

        Script.sentence("If there are GOOD ones, and a DOWN data node has one with their stamp, the block HANGS.");
        Script.run("the DOWN data node has dropped it", removed, "tend(2) = 1", Setup.down(2), Setup.GIVEN_UP, "block(1, 0, *) = 0 2049 3 2 0", Setup.down(1),
            "block(1, 0, 4) = 1");
    }
}
