/** The edges that the sections 'What it is' and 'Terms' name, sentence by sentence. */
public final class EdgesTermsTest {
    public static void main(String[] args) {
        numberOfCalls();
        machines();
        records();
        journals();
        takingOver();
        logsTakenOver();
        writing();
        inodes();
        rows();
        stamps();
        replicas();
        goodOnes();
        hanging();
        renewing();
        Script.end();
    }

    private static void numberOfCalls() {
        Script.sentence("An object is used for at most 512 calls after it has been made; what later calls answer is free.");
        // 1 + 12 * 41 + 18 calls, so that status is the 512th.
        Script.run("the 512th call", "takeover(0) = 1", Script.times(12, Setup.pairs(20, 1) + "fold() = 3"), Setup.pairs(9, 1),
            "status(2) = 498");
    }

    private static void machines() {
        Script.sentence("DATA NODES 0..4, JOURNALS 0..2 and MASTERS 0, 1 are UP (at first) or DOWN.");
        Script.run("data nodes", "power(0, 0, up) = false", "power(0, 4, up) = false", "power(0, 0, down) = true", "power(0, 4, down) = true",
            "power(0, -1, down) = false", "power(0, 5, down) = false");
        Script.run("journals", "power(1, 0, up) = false", "power(1, 2, up) = false", "power(1, 0, down) = true", "power(1, 2, down) = true",
            "power(1, -1, down) = false", "power(1, 3, down) = false");
        Script.run("masters", "power(2, 0, up) = false", "power(2, 1, up) = false", "power(2, 0, down) = true", "power(2, 1, down) = true",
            "power(2, -1, down) = false", "power(2, 2, down) = false");

        Script.sentence("At most one master is ACTIVE (at first none).");
        Script.run("none at first", "status(0) = NONE", "make(0, 0, 0) = NONE");
        Script.run("the earlier one is active no more", "takeover(0) = 1", "takeover(1) = 2", "status(0) = 1", "power(2, 0, down) = true",
            "status(0) = 1", "power(2, 1, down) = true", "status(0) = NONE");
    }

    private static void records() {
        Script.sentence("RECORDS have a kind, three numbers a, b, c (those not named here are 0) and the EPOCH in which they were written:");
        // File 1 has place 7 and client 3, and its second block is block 1: no number that is not named is 0 by chance.
        String before = "takeover(0) = 1\nmake(3, 0, 7) = 1\n" + Script.times(8, "append(3, 1, 5) = any") + "pass(32) = 16\nappend(3, 1, 6) = 1\n";
        Script.run("MAKE has all three", before, "journal(0, 0, *) = 1 0 1 7 3 NONE");
        Script.run("BLOCK has no c", before, "journal(0, 2, *) = 1 1 1 1 0 NONE");
        Script.run("STAMP has no b, c", before, "close(-1, 1) = 0", "journal(0, 3, *) = 1 2 1 0 0 NONE");
        Script.run("CLOSE has no c", before, "pass(2) = 2", "close(3, 1) = 0", "journal(0, 3, *) = 1 3 1 1 0 NONE");
        Script.run("REMOVE has no b, c", before, "close(-1, 1) = 0", "remove(1) = 0", "journal(0, 5, *) = 1 4 1 0 0 NONE");
        Script.run("MOVE has no c", before, "move(1, 0, 6) = 0", "journal(0, 3, *) = 1 5 1 6 0 NONE");
        Script.run("the epoch when it was written", "takeover(0) = 1", "make(3, 0, 7) = 1", "takeover(0) = 2", "move(1, 0, 6) = 0",
            "journal(0, 0, 0) = 1", "journal(0, 1, 0) = 2");
    }

    private static void journals() {
        Script.sentence("JOURNALS have LOGS, rows of records, numbered from 0 on; a PROMISE, an epoch, 0 at first; and a BASE, 0 at first:");
        Script.run("at first", Script.times(3, "journal(@, -1, 0) = 0\njournal(@, -1, 1) = 0\njournal(@, -1, 3) = 0\njournal(@, 0, 0) = NONE"));
        Script.run("the first record is number 0", "takeover(0) = 1", "make(3, 0, 7) = 1", "journal(0, 0, *) = 1 0 1 7 3", "journal(0, 1, 0) = NONE");

        Script.sentence("the records before it are FOLDED (they count, but can't be shown).");
        Script.run("at the base and before it", "takeover(0) = 1", "make(3, 0, 0) = 1", "make(3, 0, 1) = 2", "fold() = 3", "make(3, 0, 2) = 3",
            "journal(0, -1, *) = 3 1 1 2", "journal(0, 1, *) = NONE NONE NONE NONE NONE", "journal(0, 2, *) = 1 0 3 2 3");
        Script.run("all are folded", "takeover(0) = 1", "make(3, 0, 0) = 1", "fold() = 3", "journal(0, -1, 0) = 1", "journal(0, 0, 0) = NONE",
            "status(2) = 1");

        Script.sentence("A journal is IN TOUCH or not (at first not).");
        Script.run("at first", Script.times(3, "journal(@, -1, 2) = 0"));
    }

    private static void takingOver() {
        Script.sentence("To TAKE OVER a master must be UP and at least two journals:");
        Script.run("the master is down", "power(2, 0, down) = true", "takeover(0) = REFUSED", "takeover(1) = 1");
        Script.run("one journal", Setup.ONLY_JOURNAL_0, "takeover(0) = REFUSED", "status(*) = NONE 0");
        Script.run("no journal", Setup.ONLY_JOURNAL_0, "power(1, 0, down) = true", "takeover(0) = REFUSED", "status(*) = NONE 0");
        for (int j = 0; j < 3; j++) {
            Script.run("just two journals", "power(1, " + j + ", down) = true", "takeover(0) = 1", "status(*) = 0 1 0");
        }

        Script.sentence("the epoch becomes the greatest PROMISE of the UP journals and 1, and these promise it;");
        Script.run("the first epoch", "takeover(0) = 1", Script.times(3, "journal(@, -1, 1) = 1"));
        for (int j = 0; j < 3; j++) {
            int late = (j + 1) % 3;
            int other = (j + 2) % 3;
            Script.run("journal " + j + " has the greatest promise", "power(1, " + late + ", down) = true", "takeover(0) = 1", "takeover(0) = 2",
                "power(1, " + late + ", up) = true", "power(1, " + other + ", down) = true", "takeover(0) = 3", "journal(" + j + ", -1, 1) = 3",
                "journal(" + late + ", -1, 1) = 3", "journal(" + other + ", -1, 1) = 2");
        }
        Script.run("an UP journal with a lesser promise", "power(1, 0, down) = true", "takeover(0) = 1", "takeover(0) = 2", "power(1, 0, up) = true",
            "power(1, 2, down) = true", "takeover(0) = 3", "journal(0, -1, 1) = 3", "journal(1, -1, 1) = 3", "journal(2, -1, 1) = 2");
        Script.run("a DOWN journal promises nothing", "power(1, 1, down) = true", "takeover(0) = 1", "journal(1, -1, 1) = 0");

        Script.sentence("The master is ACTIVE, no other one.");
        Script.run("instead of the other", "takeover(1) = 1", "takeover(0) = 2", "status(0) = 0", "power(2, 1, down) = true", "status(0) = 0");
    }

    private static void logsTakenOver() {
        Script.sentence("of their logs that is taken whose last record has the greatest epoch (a log without records: 0),");
        Script.run("no log has records", "takeover(0) = 1", "takeover(0) = 2", "status(2) = 0");
        Script.run("a log without records", "power(1, 0, down) = true", "takeover(0) = 1", "make(3, 0, 7) = 1", "power(1, 0, up) = true",
            "takeover(0) = 2", "journal(0, -1, *) = 1 2 1 0", "journal(0, 0, *) = 1 0 1 7 3");
        Script.run("a later epoch, as many records", "takeover(0) = 1", Setup.ONLY_JOURNAL_0, "make(3, 0, 7) = LOST", Setup.WITHOUT_JOURNAL_0,
            "takeover(0) = 2", "make(2, 0, 6) = 1", "power(1, 0, up) = true", "takeover(0) = 3", Script.times(3, "journal(@, 0, *) = 2 0 1 6 2"));
        Script.run("the log of a DOWN journal is not looked at", "takeover(0) = 1", Setup.ONLY_JOURNAL_0, "make(3, 0, 7) = LOST",
            Setup.WITHOUT_JOURNAL_0, "takeover(0) = 2", "status(2) = 0", "journal(0, -1, 0) = 1");

        Script.sentence("of several the one with the most records,");
        Script.run("one record more", "takeover(0) = 1", "make(3, 0, 7) = 1", "power(1, 0, down) = true", "make(3, 0, 6) = 2", "power(1, 0, up) = true",
            "takeover(0) = 2", "status(2) = 2", "journal(0, 1, *) = 1 0 2 6 3");
        Script.run("a lost record more", "takeover(0) = 1", "make(3, 0, 7) = 1", Setup.ONLY_JOURNAL_2, "make(3, 0, 6) = LOST", "power(1, 0, up) = true",
            "takeover(0) = 2", "status(2) = 2", "node(2, 0) = 2");

        Script.sentence("of several that of the least journal;");
        Script.run("its base is less", "takeover(0) = 1", "make(3, 0, 7) = 1", "power(1, 0, down) = true", "fold() = 2", "power(1, 0, up) = true",
            "takeover(0) = 2", Script.times(3, "journal(@, -1, *) = 1 2 1 0"));
        Script.run("its base is greater", "takeover(0) = 1", "make(3, 0, 7) = 1", "power(1, 2, down) = true", "fold() = 2", "power(1, 2, up) = true",
            "takeover(0) = 2", Script.times(3, "journal(@, -1, *) = 1 2 1 1"));
        Script.run("the least one that is UP", "takeover(0) = 1", "make(3, 0, 7) = 1", "power(1, 1, down) = true", "fold() = 2", "power(1, 1, up) = true",
            "power(1, 0, down) = true", "takeover(0) = 2", "journal(1, -1, *) = 1 2 1 0", "journal(2, -1, *) = 1 2 1 0", "journal(0, -1, *) = 1 1 0 1");

        Script.sentence("all UP journals have this log, with its BASE, and are IN TOUCH then, the others are not.");
        Script.run("all numbers of all its records", "power(1, 2, down) = true", "takeover(0) = 1", "make(3, 0, 7) = 1", "append(3, 1, 5) = 1", "pass(2) = 2",
            "close(3, 1) = 0", "move(1, 0, 6) = 0", "power(1, 2, up) = true", "takeover(0) = 2", "journal(2, 0, *) = 1 0 1 7 3",
            "journal(2, 1, *) = 1 1 1 0 0", "journal(2, 2, *) = 1 3 1 1 0", "journal(2, 3, *) = 1 5 1 6 0", "journal(2, 4, 0) = NONE");
        Script.run("with its base", "takeover(0) = 1", "make(3, 0, 7) = 1", "power(1, 0, down) = true", "make(3, 0, 6) = 2", "fold() = 2",
            "power(1, 0, up) = true", "takeover(0) = 2", "journal(0, -1, *) = 2 2 1 2", "journal(0, 0, 0) = NONE");
        Script.run("one that is DOWN is in touch no more", "takeover(0) = 1", "make(3, 0, 7) = 1", "power(1, 2, down) = true", "journal(2, -1, 2) = 1",
            "takeover(0) = 2", "journal(2, -1, *) = 1 1 0 0", "power(1, 2, up) = true", "make(3, 0, 6) = 2", "journal(2, -1, *) = 1 1 0 0");
        Script.run("what the others had is gone", "takeover(0) = 1", Setup.ONLY_JOURNAL_2, "make(3, 0, 7) = LOST", "power(1, 0, up) = true",
            "power(1, 1, up) = true", "power(1, 2, down) = true", "takeover(0) = 2", "make(2, 0, 6) = 1", "power(1, 2, up) = true", "takeover(0) = 3",
            "journal(2, -1, *) = 1 3 1 0", "journal(2, 0, *) = 2 0 1 6 2", "journal(2, 1, 0) = NONE");
    }

    private static void writing() {
        Script.sentence("To WRITE a record: journals that are DOWN are IN TOUCH no more; those that are IN TOUCH then get it behind their logs.");
        Script.run("a journal that is DOWN", "takeover(0) = 1", "power(1, 1, down) = true", "journal(1, -1, 2) = 1", "make(3, 0, 7) = 1",
            "journal(1, -1, *) = 0 1 0 0", "journal(0, -1, *) = 1 1 1 0", "journal(2, -1, *) = 1 1 1 0");
        Script.run("a journal that is UP, but not in touch", "takeover(0) = 1", "power(1, 1, down) = true", "make(3, 0, 7) = 1", "power(1, 1, up) = true",
            "make(3, 0, 6) = 2", "journal(1, -1, *) = 0 1 0 0", "journal(0, -1, 0) = 2");
        Script.run("a journal that was DOWN between two records", "takeover(0) = 1", "make(3, 0, 7) = 1", "power(1, 1, down) = true",
            "power(1, 1, up) = true", "make(3, 0, 6) = 2", "journal(1, -1, *) = 2 1 1 0", "journal(1, 1, *) = 1 0 2 6 3");

        Script.sentence("If these are fewer than two no master is ACTIVE any more, and the call is LOST (what it did before stays).");
        Script.run("two journals", "takeover(0) = 1", "power(1, 0, down) = true", "make(3, 0, 7) = 1", "status(0) = 0");
        Script.run("one journal", "takeover(0) = 1", Setup.ONLY_JOURNAL_0, "make(3, 0, 7) = LOST", "status(0) = NONE", "journal(0, -1, *) = 1 1 1 0",
            "journal(0, 0, *) = 1 0 1 7 3");
        Script.run("no journal", "takeover(0) = 1", Setup.ONLY_JOURNAL_0, "power(1, 0, down) = true", "make(3, 0, 7) = LOST", "status(0) = NONE",
            Script.times(3, "journal(@, -1, *) = 0 1 0 0"));
        Script.run("one of two that were in touch; the third is UP", "power(1, 1, down) = true", "takeover(0) = 1", "power(1, 1, up) = true",
            "power(1, 2, down) = true", "make(3, 0, 7) = LOST", "journal(1, -1, *) = 0 0 0 0", "journal(0, -1, 0) = 1");
        Script.run("what the call did before stays", Setup.FILE, Setup.ONLY_JOURNAL_0, "append(2, 1, 5) = LOST",
            Script.times(3, "replica(@, 0, *) = 2049 0"));
    }

    private static void inodes() {
        Script.sentence("INODES 0..11, while a master is ACTIVE, are what the records (FOLDED ones, too) of the log of those IN TOUCH say:");
        Script.run("the greatest number", "takeover(0) = 1", "make(-1, 0, 7) = 1", Script.times(8, "make(0, 1, @) = any"), "make(0, 0, 0) = 10",
            "make(3, 0, 1) = 11", "make(0, 0, 2) = FULL", "node(11, *) = 2 1 3", "node(12, 0) = NONE");
        Script.run("folded records", "takeover(0) = 1", "make(3, 0, 7) = 1", "fold() = 3", "takeover(0) = 2", "node(1, *) = 2 7 3");
        Script.run("not those of a log that is not in touch", "takeover(0) = 1", Setup.ONLY_JOURNAL_0, "make(3, 0, 7) = LOST", Setup.WITHOUT_JOURNAL_0,
            "takeover(0) = 2", "node(1, 0) = 0", "power(1, 0, up) = true", "node(1, 0) = 0");
        Script.run("no master is active", "takeover(0) = 1", "make(3, 0, 7) = 1", "power(2, 0, down) = true", "node(1, 0) = NONE", "takeover(1) = 2",
            "node(1, 0) = 2");

        Script.sentence("ABSENT, DIRECTORIES, or FILES, which are OPEN for a client 0..3 or CLOSED; 0, the ROOT, is a DIRECTORY from the beginning.");
        Script.run("the least and the greatest client", "takeover(0) = 1", "make(0, 0, 0) = 1", "make(3, 0, 1) = 2", "node(1, 2) = 0", "node(2, 2) = 3");
        Script.run("the root without records", "takeover(0) = 1", "status(2) = 0", "node(0, 0) = 1", "node(1, 0) = 0", "node(11, 0) = 0");

        Script.sentence("MAKE: a is a FILE, OPEN for c, without blocks, or a DIRECTORY, if c is -1.");
        Script.run("a number used before has no blocks", Setup.FILE, "append(2, 1, 5) = 1", "pass(2) = 2", "close(2, 1) = 0", "remove(1) = 0",
            "make(0, 0, 0) = 1", "node(1, *) = 2 0 0 0 0");
        Script.run("client -1", "takeover(0) = 1", "make(-1, 0, 0) = 1", "node(1, *) = 1 0 NONE 0 0");
        Script.run("a directory's number becomes a file's", "takeover(0) = 1", "make(-1, 0, 0) = 1", "remove(1) = 0", "make(0, 0, 0) = 1", "node(1, 0) = 2",
            "make(0, 1, 0) = REFUSED");

        Script.sentence("A PLACE is 8 * a DIRECTORY + a name 0..7; no two inodes are at one.");
        Script.run("the least and the greatest place", "takeover(0) = 1", "make(0, 0, 0) = 1", "close(0, 1) = 0", "make(-1, 0, 7) = 2",
            Script.times(8, "make(-1, 2, @) = any"), "make(-1, 0, 1) = 11", "node(1, 1) = 0", "remove(1) = 0", "make(0, 11, 7) = 1", "node(1, 1) = 95");
        Script.run("no two at one", "takeover(0) = 1", "make(0, 0, 7) = 1", "make(-1, 0, 7) = REFUSED", "make(-1, 0, 6) = 2", "move(2, 0, 7) = REFUSED");
        Script.run("name 7 here is not name 0 in the next directory", "takeover(0) = 1", "make(-1, 0, 7) = 1", "make(0, 1, 0) = 2", "node(0, 12) = 1",
            "node(1, 5) = 2", "node(0, 13) = NONE");
    }

    private static void rows() {
        Script.sentence("BLOCK: the FILE's row of blocks, up to 3, gets block b, 0..15, at its end.");
        Script.run("three in their order", Setup.FILE, Setup.FILL, Setup.FILL, Setup.FILL, "block(1, 0, 0) = 0", "block(1, 1, 0) = 1",
            "block(1, 2, 0) = 2", "block(1, 3, 0) = NONE", "append(2, 1, 9) = REFUSED");

        Script.sentence("CLOSE: it is CLOSED; if b is 0 its last block, if it has one, is taken out of its row.");
        Script.run("0 without a block", Setup.FILE, "close(2, 1) = 0", "node(1, *) = 3 0 NONE 0 0");
        Script.run("0 with one block", Setup.FILE, "append(2, 1, 5) = 1", "close(-1, 1) = 0", "journal(0, 3, *) = 1 3 1 0 0", "node(1, *) = 3 0 NONE 0 0");
        Script.run("0 with two blocks", Setup.FILE, Setup.FILL, "append(2, 1, 5) = 1", "close(-1, 1) = 0", "node(1, *) = 3 0 NONE 1 8",
            "block(1, 0, 0) = 0", "block(1, 1, 0) = NONE");
        Script.run("1 with one block", Setup.FILE, "append(2, 1, 5) = 1", "pass(2) = 2", "close(2, 1) = 0", "node(1, *) = 3 0 NONE 1 1");
        Script.run("so after a takeover", Setup.FILE, Setup.FILL, "append(2, 1, 5) = 1", "close(-1, 1) = 0", "takeover(1) = 2", "node(1, *) = 3 0 NONE 1 8");

        Script.sentence("REMOVE: it is ABSENT.");
        Script.run("with its blocks and place", Setup.FILE, "append(2, 1, 5) = 1", "pass(2) = 2", "close(2, 1) = 0", "remove(1) = 0", "node(1, *) = 0 NONE",
            "node(0, 3) = 0", "node(0, 5) = NONE", "block(1, 0, 0) = NONE", "read(1, 0) = NOUNIT");
    }

    private static void stamps() {
        Script.sentence("A block's STAMP is that of its latest BLOCK or STAMP record: 2048 * the record's epoch + its number.");
        Script.run("a BLOCK record", Setup.FILE, "append(2, 1, 5) = 1", "block(1, 0, 1) = 2049");
        Script.run("a later STAMP record", Setup.FILE, "append(2, 1, 5) = 1", "pass(2) = 2", "close(-1, 1) = 0", "block(1, 0, 1) = 2050");
        Script.run("a later BLOCK record", Setup.FILE, "append(2, 1, 5) = 1", "close(-1, 1) = 0", "make(2, 0, 1) = 2", "append(2, 2, 5) = 1",
            "block(2, 0, *) = 0 2053");
        Script.run("a later epoch", Setup.FILE, "takeover(0) = 2", "append(2, 1, 5) = 1", "block(1, 0, 1) = 4097", "takeover(0) = 3",
            "block(1, 0, 1) = 4097", "pass(2) = 2", "close(-1, 1) = 0", "block(1, 0, 1) = 6146");
        Script.run("the number counts folded records", Setup.FILE, "fold() = 3", "append(2, 1, 5) = 1", "block(1, 0, 1) = 2049");
        Script.run("of another block", Setup.FILE, Setup.FILL, "append(2, 1, 5) = 1", "pass(2) = 2", "close(-1, 1) = 0", "block(1, 0, 1) = 2049",
            "block(1, 1, 1) = 2051");
    }

    private static void replicas() {
        Script.sentence("REPLICAS of blocks are on data nodes, of each block one or none: a stamp, and up to 8 UNITS, ints.");
        Script.run("one or none", Setup.FILE, "append(2, 1, 5) = 1", "replica(2, 0, *) = 2049 0", "replica(3, 0, *) = NONE NONE");
        Script.run("a new one in place of the old one", Setup.FILE, "append(2, 1, 5) = 1", "close(-1, 1) = 0", Setup.down(3, 4), "make(2, 0, 1) = 2",
            "append(2, 2, 5) = 1", "status(3) = 3", "replica(0, 0, *) = 2053 1");
        Script.run("8 units", Setup.FILE, Setup.units(8), "replica(0, 0, 1) = 8", "append(2, 1, 9) = REFUSED", "replica(0, 0, 1) = 8");
        Script.run("the least and the greatest int", Setup.FILE, "append(2, 1, -2147483648) = 1", "append(2, 1, 2147483647) = 2", "pass(4) = 4",
            "read(1, 0) = -2147483648", "read(1, 1) = 2147483647");
        Script.run("units that look like answers", Setup.FILE, "append(2, 1, -1) = 1", "append(2, 1, -2) = 2", "append(2, 1, 0) = 3", "pass(6) = 6",
            "read(1, 0) = -1", "read(1, 1) = -2", "read(1, 2) = 0", "node(1, 4) = 3");

        Script.sentence("The LOAD of a data node is how many it has.");
        Script.run("none, then one, also DOWN", "status(3) = 0", Setup.FILE, "append(2, 1, 5) = 1", "status(3) = 3", Setup.down(0), "status(3) = 3");
    }

    private static void goodOnes() {
        Script.sentence("GOOD ones of a block are those on UP data nodes with the greatest stamp that any on an UP one has, "
            + "if that is not less than the block's STAMP;");
        Script.run("as great as the STAMP", Setup.FILE, "append(2, 1, 5) = 1", "block(1, 0, *) = 0 2049 7");
        Script.run("not on a DOWN data node", Setup.FILE, "append(2, 1, 5) = 1", Setup.down(1), "block(1, 0, 2) = 5");
        Script.run("less than the STAMP", Setup.FILE, "append(2, 1, 5) = 1", Setup.down(0), "append(2, 1, 6) = 1", Setup.up(0), "block(1, 0, 2) = 6",
            Setup.down(1, 2), "replica(0, 0, 0) = 2049", "block(1, 0, *) = 0 2050 0 NONE");
        Script.run("greater than the STAMP", LOST_STAMP, Setup.up(2), "block(1, 0, *) = 0 2049 3");
        Script.run("as great as the STAMP, while a greater one is DOWN", LOST_STAMP, Setup.up(2), Setup.down(0, 1), "block(1, 0, *) = 0 2049 4");
        Script.run("no replica is UP", Setup.FILE, "append(2, 1, 5) = 1", Setup.down(0, 1, 2), "block(1, 0, *) = 0 2049 0 NONE 0");

        Script.sentence("the FIRST is the GOOD one on the least data node.");
        Script.run("data node 0", Setup.FILE, "append(2, 1, 5) = 1", "replica(0, 0, 1) = 1", "replica(1, 0, 1) = 0");
        Script.run("the least that is UP", Setup.FILE, "append(2, 1, 5) = 1", Setup.down(0), "append(2, 1, 6) = 1", "replica(1, 0, 1) = 1",
            "replica(2, 0, 1) = 0");
        Script.run("not one that was left behind", Setup.FILE, "append(2, 1, 5) = 1", Setup.down(0), "append(2, 1, 6) = 1", Setup.up(0),
            "append(2, 1, 7) = 2", "replica(0, 0, *) = 2049 1", "replica(1, 0, *) = 2050 2");
    }

    // The replicas on 0 and 1 have stamp 2050, that on 2 and the block itself 2049; data node 2 is DOWN, the epoch is 2.
    private static final String LOST_STAMP = Setup.FILE + "append(2, 1, 5) = 1\npass(2) = 2\n" + Setup.down(2) + Setup.ONLY_JOURNAL_0
        + "append(2, 1, 6) = LOST\n" + Setup.WITHOUT_JOURNAL_0 + "takeover(0) = 2\n";

    private static void hanging() {
        Script.sentence("If there are GOOD ones, and a DOWN data node has one with their stamp, the block HANGS.");
        Script.run("all are UP", Setup.FILE, "append(2, 1, 5) = 1", "block(1, 0, 4) = 0");
        Script.run("one is DOWN", Setup.FILE, "append(2, 1, 5) = 1", Setup.down(2), "block(1, 0, 4) = 1");
        Script.run("one is UP", Setup.FILE, "append(2, 1, 5) = 1", Setup.down(0, 1), "block(1, 0, 4) = 1");
        Script.run("there are no GOOD ones", Setup.FILE, "append(2, 1, 5) = 1", Setup.down(0, 1, 2), "block(1, 0, 4) = 0");
        Script.run("a DOWN data node without one", Setup.FILE, "append(2, 1, 5) = 1", Setup.down(3), "block(1, 0, 4) = 0");
        Script.run("the one that is DOWN is older", Setup.FILE, "append(2, 1, 5) = 1", Setup.down(2), "append(2, 1, 6) = 1", "replica(2, 0, 0) = 2049",
            "block(1, 0, 4) = 0");
        Script.run("the one that is DOWN is later", LOST_STAMP, Setup.up(2), Setup.down(0, 1), "replica(0, 0, 0) = 2050", "block(1, 0, *) = 0 2049 4 1 0");
        Script.run("theirs, not the block's STAMP", LOST_STAMP, Setup.up(2), Setup.down(0), "block(1, 0, *) = 0 2049 2 1 1");
        Script.run("the one that is DOWN has the block's STAMP, but not theirs", LOST_STAMP, "block(1, 0, *) = 0 2049 3 1 0");
    }

    private static void renewing() {
        Script.sentence("To RENEW a block: in each GOOD replica only the first units are left, as many as the GOOD one with the fewest has, "
            + "and these get the stamp that the next record will have; then STAMP of the block is written.");
        String fourTwoNone = Setup.FILE + Setup.units(4) + "pass(2) = 2\n" + Setup.down(3, 4) + "replica(1, 0, 1) = 2\n";
        Script.run("the fewest are none", fourTwoNone, "close(-1, 1) = 0", Script.times(3, "replica(@, 0, *) = 2050 0"));
        Script.run("the fewest are some", fourTwoNone, Setup.down(2), "close(2, 1) = 0", "replica(0, 0, *) = 2050 2", "replica(1, 0, *) = 2050 2",
            "read(1, 0) = 10", "read(1, 1) = 11", "read(1, 2) = NOUNIT");
        Script.run("all have as many", Setup.FILE, Setup.units(2), "pass(4) = 4", "close(-1, 1) = 0", Script.times(3, "replica(@, 0, *) = 2050 2"));
        Script.run("the last one has the most", fourTwoNone, Setup.down(1), "pass(32) = 4", Setup.up(1), Setup.down(0), "close(2, 1) = 0",
            "replica(1, 0, *) = 2050 2", "replica(2, 0, *) = 2050 2", "read(1, 1) = 11");
        Script.run("there is one", fourTwoNone, Setup.down(1, 2), "close(2, 1) = 0", "replica(0, 0, *) = 2050 4", "node(1, 4) = 4");
        Script.run("those that are not GOOD stay as they are", fourTwoNone, Setup.down(2), "close(2, 1) = 0", "replica(2, 0, *) = 2049 0");
        Script.run("8 units", Setup.FILE, Setup.FILL, "close(-1, 1) = 0", Script.times(3, "replica(@, 0, *) = 2050 8"), "node(1, 4) = 8");
        Script.run("then it is written", fourTwoNone, Setup.ONLY_JOURNAL_0, "close(-1, 1) = LOST", Script.times(3, "replica(@, 0, *) = 2050 0"),
            "journal(0, 2, *) = 1 2 0 0 0", "journal(0, 3, 0) = NONE");
        Script.run("the next record's stamp behind folded ones, in a later epoch", fourTwoNone, "fold() = 3", "takeover(0) = 2", "close(-1, 1) = 0",
            "replica(0, 0, *) = 4098 0", "journal(0, 2, *) = 2 2 0 0 0");
    }
}
