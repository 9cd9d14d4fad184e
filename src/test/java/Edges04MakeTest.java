/** The edges that promise 4 names, sentence by sentence. */
public final class Edges04MakeTest {
    // 40 records: file 1 is OPEN for client 2, 2 is an empty directory.
    private static final String FORTY = Setup.FILE + "make(-1, 0, 6) = 2\n" + Setup.pairs(19, 3) + "status(2) = 40\n";

    public static void main(String[] args) {
        leastAbsent();
        clientsAndNames();
        noMaster();
        refused();
        fortyRecords();
        whichJournalsCount();
        noInodeIsAbsent();
        order();
        Script.end();
    }

    private static void leastAbsent() {
        Script.sentence("The least ABSENT inode is made");
        Script.run("the first is 1, behind the root", "takeover(0) = 1", "make(0, 0, 0) = 1", "make(0, 0, 1) = 2");
        Script.run("one that was removed", "takeover(0) = 1", Script.times(3, "make(-1, 0, @) = any"), "remove(2) = 0", "remove(1) = 0", "make(0, 0, 7) = 1",
            "make(0, 0, 6) = 2", "make(0, 0, 5) = 4");
        Script.run("the last one", ALL_INODES, "remove(2) = REFUSED", "node(11, 0) = 1", "remove(11) = 0", "make(0, 0, 4) = 11");
    }

    private static void clientsAndNames() {
        Script.sentence("a FILE for client c 0..3, or (c -1) a DIRECTORY,");
        Script.run("the least client", "takeover(0) = 1", "make(0, 0, 0) = 1", "node(1, *) = 2 0 0");
        Script.run("the greatest client", "takeover(0) = 1", "make(3, 0, 0) = 1", "node(1, *) = 2 0 3");
        Script.run("a client too large", "takeover(0) = 1", "make(4, 0, 0) = REFUSED", "make(2147483647, 0, 0) = REFUSED", "status(4) = 1");
        Script.run("-1", "takeover(0) = 1", "make(-1, 0, 0) = 1", "node(1, *) = 1 0 NONE");
        Script.run("a client too small", "takeover(0) = 1", "make(-2, 0, 0) = REFUSED", "make(-2147483648, 0, 0) = REFUSED", "status(4) = 1");

        Script.sentence("with a name in a DIRECTORY that has none of this name: its number.");
        Script.run("the least name", "takeover(0) = 1", "make(0, 0, 0) = 1", "node(1, 1) = 0");
        Script.run("the greatest name", "takeover(0) = 1", "make(0, 0, 7) = 1", "node(1, 1) = 7");
        Script.run("a name too small", "takeover(0) = 1", "make(-1, 0, 7) = 1", "make(0, 0, -1) = REFUSED", "make(0, 1, -1) = REFUSED",
            "make(0, 0, -2147483648) = REFUSED", "status(2) = 1");
        Script.run("a name too large", "takeover(0) = 1", "make(-1, 0, 7) = 1", "make(0, 0, 8) = REFUSED", "make(0, 1, 8) = REFUSED",
            "make(0, 0, 2147483647) = REFUSED", "status(2) = 1");
        Script.run("a directory too small", "takeover(0) = 1", "make(0, -1, 0) = REFUSED", "make(0, -1, 7) = REFUSED", "make(0, -2147483648, 0) = REFUSED",
            "status(2) = 0");
        Script.run("a directory too large", "takeover(0) = 1", "make(0, 12, 0) = REFUSED", "make(0, 2147483647, 0) = REFUSED", "status(2) = 0");
        // 8 * 2^29 is 0 in ints.
        Script.run("a directory whose place wraps around", "takeover(0) = 1", "make(0, 536870912, 0) = REFUSED", "make(0, -536870912, 0) = REFUSED",
            "status(2) = 0");
        Script.run("a directory that is absent", "takeover(0) = 1", "make(0, 1, 0) = REFUSED", "make(0, 11, 0) = REFUSED", "status(2) = 0");
        Script.run("a directory that was removed", "takeover(0) = 1", "make(-1, 0, 0) = 1", "remove(1) = 0", "make(0, 1, 0) = REFUSED");
        Script.run("an open file", Setup.FILE, "make(0, 1, 0) = REFUSED", "status(2) = 1");
        Script.run("a closed file", Setup.FILE, "close(2, 1) = 0", "make(0, 1, 0) = REFUSED", "status(2) = 2");
        Script.run("the name is taken by a file", Setup.FILE, "make(0, 0, 0) = REFUSED", "make(-1, 0, 0) = REFUSED", "status(2) = 1");
        Script.run("the name is taken by a directory", "takeover(0) = 1", "make(-1, 0, 0) = 1", "make(0, 0, 0) = REFUSED", "make(-1, 0, 0) = REFUSED");
        Script.run("the name is taken in another directory", "takeover(0) = 1", "make(-1, 0, 0) = 1", "make(0, 1, 0) = 2", "node(2, 1) = 8");
        Script.run("the name is free again", Setup.FILE, "close(2, 1) = 0", "remove(1) = 0", "make(0, 0, 0) = 1");
        Script.run("the name is free since a move", Setup.FILE, "move(1, 0, 1) = 0", "make(0, 0, 0) = 2", "make(0, 0, 1) = REFUSED");
        Script.run("a directory with all eight names", "takeover(0) = 1", Script.times(8, "make(0, 0, @) = any"), "node(0, 3) = 8",
            Script.times(8, "make(0, 0, @) = REFUSED"));
    }

    private static void noMaster() {
        Script.sentence("For all calls that write records: NONE if no master is ACTIVE;");
        Script.run("make at first", "make(0, 0, 0) = NONE", "make(9, 9, 9) = NONE");
        Script.run("append", Setup.FILE, "power(2, 0, down) = true", "append(2, 1, 5) = NONE", "append(9, 99, 5) = NONE", "status(3) = 0");
        Script.run("close", Setup.FILE, "power(2, 0, down) = true", "close(2, 1) = NONE", "close(9, 99) = NONE", "journal(0, -1, 0) = 1");
        Script.run("remove", "takeover(0) = 1", "make(-1, 0, 0) = 1", "power(2, 0, down) = true", "remove(1) = NONE", "remove(99) = NONE",
            "journal(0, -1, 0) = 1");
        Script.run("move", Setup.FILE, "power(2, 0, down) = true", "move(1, 0, 1) = NONE", "move(99, 9, 9) = NONE", "journal(0, -1, 0) = 1");
        Script.run("after a lost call", Setup.FILE, Setup.ONLY_JOURNAL_0, "make(0, 0, 1) = LOST", "make(0, 0, 2) = NONE", "append(2, 1, 5) = NONE",
            "close(2, 1) = NONE", "remove(1) = NONE", "move(1, 0, 3) = NONE", "journal(0, -1, 0) = 2");
    }

    private static void refused() {
        Script.sentence("REFUSED if it is not as said, or there is no such number;");
        Script.run("two things are wrong at once", "takeover(0) = 1", "make(4, 12, 8) = REFUSED", "make(-2, -1, -1) = REFUSED", "status(2) = 0");
        Script.run("a refusal leaves the touch", "takeover(0) = 1", "power(1, 0, down) = true", "make(4, 0, 0) = REFUSED", "append(0, 1, 5) = REFUSED",
            "close(0, 1) = REFUSED", "remove(1) = REFUSED", "move(1, 0, 0) = REFUSED", "journal(0, -1, 2) = 1");
        Script.run("a refusal with too few journals loses nothing", "takeover(0) = 1", Setup.ONLY_JOURNAL_0, "make(4, 0, 0) = REFUSED",
            "remove(1) = REFUSED", "status(0) = 0");
    }

    private static void fortyRecords() {
        Script.sentence("FULL if by all records that the call writes an UP journal that is IN TOUCH would have more than 40 from its BASE on,");
        String thirtyNine = "takeover(0) = 1\nmake(2, 0, 0) = 1\nmake(-1, 0, 6) = 2\nmake(0, 0, 5) = 3\n" + Setup.pairs(18, 4) + "status(2) = 39\n";
        Script.run("the 40th record by make", thirtyNine, "make(0, 0, 1) = 4", "status(2) = 40");
        Script.run("the 40th record by append", thirtyNine, "append(2, 1, 5) = 1", "status(2) = 40");
        Script.run("the 40th record by close", thirtyNine, "close(2, 1) = 0", "status(2) = 40");
        Script.run("the 40th record by close for whomever", thirtyNine, "close(-1, 1) = 0", "status(2) = 40");
        Script.run("the 40th record by remove", thirtyNine, "remove(2) = 0", "status(2) = 40");
        Script.run("the 40th record by move", thirtyNine, "move(2, 0, 1) = 0", "status(2) = 40");
        Script.run("make", FORTY, "make(0, 0, 1) = FULL", "status(2) = 40", "node(3, 0) = 0");
        Script.run("append", FORTY, "append(2, 1, 5) = FULL", "status(2) = 40", "status(3) = 0", "node(1, 3) = 0");
        Script.run("close", FORTY, "close(2, 1) = FULL", "status(2) = 40", "node(1, 0) = 2");
        Script.run("remove", FORTY, "remove(2) = FULL", "status(2) = 40", "node(2, 0) = 1");
        Script.run("move", FORTY, "move(2, 0, 1) = FULL", "status(2) = 40", "node(2, 1) = 6");
        Script.run("from the base on, not in all", FORTY, "fold() = 3", "make(0, 0, 1) = 3", "status(2) = 41");
        Script.run("40 more behind the base", FORTY, "fold() = 3", Setup.pairs(20, 3), "status(2) = 80", "make(0, 0, 1) = FULL", "fold() = 3",
            "make(0, 0, 1) = 3");
        Script.run("a takeover makes no room", FORTY, "takeover(1) = 2", "make(0, 0, 1) = FULL", "status(*) = 1 2 40");
        Script.run("two records of append, room for one", Setup.FILE, Setup.FILL, "make(-1, 0, 6) = 2", Setup.pairs(18, 3), "status(2) = 39", Setup.down(0),
            "append(2, 1, 9) = FULL", "status(2) = 39", "replica(1, 0, *) = 2049 8", "status(3) = 3");
        Script.run("two records of append, room for two", Setup.FILE, Setup.FILL, Setup.pairs(18, 2), "status(2) = 38", Setup.down(0), "append(2, 1, 9) = 1",
            "status(2) = 40");
        Script.run("one record of append, the STAMP, no room", Setup.FILE, "append(2, 1, 5) = 1", Setup.pairs(19, 2), "status(2) = 40", Setup.down(0),
            "append(2, 1, 9) = FULL", "replica(1, 0, *) = 2049 0");
        Script.run("one record of append, the STAMP, room for it", Setup.FILE, "append(2, 1, 5) = 1", "make(-1, 0, 6) = 2", Setup.pairs(18, 3),
            "status(2) = 39", Setup.down(0), "append(2, 1, 9) = 1", "status(2) = 40");
        Script.run("no record of append needs no room", Setup.FILE, "append(2, 1, 5) = 1", Setup.pairs(19, 2), "status(2) = 40", "append(2, 1, 6) = 2");
        Script.run("two records of close, room for one", Setup.FILE, "append(2, 1, 5) = 1", "pass(2) = 2", "make(-1, 0, 6) = 2", Setup.pairs(18, 3),
            "status(2) = 39", "close(-1, 1) = FULL", "replica(0, 0, *) = 2049 1", "node(1, 0) = 2", "close(2, 1) = 0", "status(2) = 40");
        Script.run("two records of close, room for two", Setup.FILE, "append(2, 1, 5) = 1", "pass(2) = 2", Setup.pairs(18, 2), "status(2) = 38",
            "close(-1, 1) = 0", "status(2) = 40");
    }

    private static void whichJournalsCount() {
        // Journals 1 and 2 have folded 30 records, journal 0, in touch, has not; all have 40.
        String olderBase = Setup.FILE + "make(-1, 0, 6) = 2\n" + Setup.pairs(14, 3) + "power(1, 0, down) = true\nfold() = 2\npower(1, 0, up) = true\n"
            + Setup.pairs(5, 3) + "status(2) = 40\n";
        Script.run("a journal with an older base", olderBase, "make(0, 0, 1) = FULL", "journal(0, -1, *) = 40 1 1 0", "journal(1, -1, *) = 40 1 1 30");
        Script.run("in touch, but DOWN", olderBase, "power(1, 0, down) = true", "make(0, 0, 1) = 3", "journal(0, -1, *) = 40 1 0 0", "status(2) = 41");
        Script.run("DOWN, in touch, and UP again", olderBase, "power(1, 0, down) = true", "power(1, 0, up) = true", "make(0, 0, 1) = FULL");
        Script.run("UP, but not in touch", olderBase, "power(1, 0, down) = true", "make(0, 0, 1) = 3", "power(1, 0, up) = true", "make(0, 0, 2) = 4",
            "journal(0, -1, *) = 40 1 0 0", "status(2) = 42");

        Script.sentence("or any journal IN TOUCH more than 1000 in all");
        manyRecords();
    }

    // No 512 calls write 1000 records; behind them the answers are free, but no log may outgrow its array.
    private static void manyRecords() {
        QuorumFiles files = new QuorumFiles();
        files.takeover(0);
        for (int n = 0; n < 3000; n++) {
            files.make(-1, 0, 0);
            files.remove(1);
            files.fold();
        }
        Script.due("records after 3000 pairs", files.journal(0, -1, 0), 1000);
        Script.due("make(-1, 0, 0) after 1000 records", files.make(-1, 0, 0), QuorumFiles.FULL);
    }

    // 1 is a directory with 2 to 9 in it, 10 a file and 11 an empty directory in the root.
    private static final String ALL_INODES = "takeover(0) = 1\nmake(-1, 0, 0) = 1\n" + Script.times(8, "make(2, 1, @) = any")
        + "make(2, 0, 1) = 10\nmake(-1, 0, 2) = 11\n";

    private static void noInodeIsAbsent() {
        Script.sentence("(here also if no inode is ABSENT);");
        Script.run("a file", ALL_INODES, "make(0, 0, 7) = FULL", "status(2) = 11", "status(4) = 12");
        Script.run("a directory", ALL_INODES, "make(-1, 11, 0) = FULL", "status(2) = 11", "status(4) = 12");
        Script.run("one is absent again", ALL_INODES, "close(2, 10) = 0", "remove(10) = 0", "make(0, 0, 7) = 10", "make(0, 0, 6) = FULL");
        Script.run("other calls still have room", ALL_INODES, "append(2, 10, 5) = 1", "close(2, 2) = 0", "move(11, 0, 7) = 0");
    }

    private static void order() {
        Script.sentence("all these change nothing; then LOST.");
        Script.run("REFUSED before FULL", FORTY, "make(4, 0, 1) = REFUSED", "make(0, 0, 0) = REFUSED", "append(1, 1, 5) = REFUSED", "close(1, 1) = REFUSED",
            "remove(0) = REFUSED", "move(2, 2, 0) = REFUSED");
        Script.run("REFUSED before FULL without an absent inode", ALL_INODES, "make(0, 0, 0) = REFUSED", "make(4, 0, 7) = REFUSED", "make(0, 10, 7) = REFUSED",
            "make(0, 0, 8) = REFUSED");
        Script.run("REFUSED before LOST", Setup.FILE, Setup.ONLY_JOURNAL_0, "make(0, 0, 0) = REFUSED", "append(1, 1, 5) = REFUSED", "close(1, 1) = REFUSED",
            "remove(1) = REFUSED", "move(1, 0, 0) = REFUSED", "status(0) = 0", "journal(1, -1, 2) = 1");
        Script.run("FULL before LOST", FORTY, Setup.ONLY_JOURNAL_0, "make(0, 0, 1) = FULL", "append(2, 1, 5) = FULL", "close(2, 1) = FULL",
            "remove(2) = FULL", "move(2, 0, 1) = FULL", "status(0) = 0", "journal(1, -1, 2) = 1");
        Script.run("FULL before LOST with two records, though only the second has no room", Setup.FILE, "append(2, 1, 5) = 1", "pass(2) = 2",
            "make(-1, 0, 6) = 2", Setup.pairs(18, 3), "status(2) = 39", Setup.ONLY_JOURNAL_0, "close(-1, 1) = FULL", "status(0) = 0",
            "replica(0, 0, *) = 2049 1", "journal(1, -1, 2) = 1");
        Script.run("FULL before LOST without an absent inode", ALL_INODES, Setup.ONLY_JOURNAL_0, "make(0, 0, 7) = FULL", "status(0) = 0",
            "journal(1, -1, 2) = 1");
        Script.run("LOST with no UP journal, however many records there are", FORTY, Setup.ONLY_JOURNAL_0, "power(1, 0, down) = true", "make(0, 0, 1) = LOST");
    }
}
