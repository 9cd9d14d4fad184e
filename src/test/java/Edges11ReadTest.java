/** The edges that promise 11 names, sentence by sentence. */
public final class Edges11ReadTest {
    public static void main(String[] args) {
        whichUnit();
        goodReplicas();
        closedFiles();
        thereIsNone();
        Script.end();
    }

    private static void whichUnit() {
        Script.sentence("Unit k of FILE f: the (k % 8)-th of the (k / 8)-th block of its row (from 0),");
        String full = Setup.FILE + Script.times(8, "append(2, 1, 1@) = any") + "pass(32) = 16\n" + Script.times(8, "append(2, 1, 2@) = any")
            + "pass(32) = 16\n" + Script.times(8, "append(2, 1, 3@) = any") + "pass(32) = 16\n";
        Script.run("the first and the last of each block", full, "read(1, 0) = 10", "read(1, 7) = 17", "read(1, 8) = 20", "read(1, 15) = 27",
            "read(1, 16) = 30", "read(1, 23) = 37", "read(1, 24) = NOUNIT");
        Script.run("a block may come before one with a lesser number", Setup.FILE, "append(2, 1, 5) = 1", "make(0, 0, 1) = 2", Setup.down(1, 2, 3, 4),
            Script.times(8, "append(0, 2, 1@) = any"), "close(-1, 1) = 0", "node(1, 3) = 1", "remove(1) = 0", "append(0, 2, 20) = 1", "block(2, 0, 0) = 1",
            "block(2, 1, 0) = 0", "read(2, 0) = 10", "read(2, 7) = 17", "read(2, 8) = 20");
    }

    private static void goodReplicas() {
        Script.sentence("if there are GOOD replicas of that, and all have it (that of the FIRST);");
        Script.run("all have it", Setup.FILE, "append(2, 1, 5) = 1", "pass(2) = 2", "read(1, 0) = 5");
        Script.run("one lacks it", Setup.FILE, "append(2, 1, 5) = 1", "pass(1) = 1", "read(1, 0) = NOUNIT");
        Script.run("the one that lacks it is DOWN", Setup.FILE, "append(2, 1, 5) = 1", "pass(1) = 1", Setup.down(2), "read(1, 0) = 5");
        Script.run("the one that lacks it is not GOOD", Setup.FILE, "append(2, 1, 5) = 1", Setup.down(2), "append(2, 1, 6) = 1", "pass(1) = 1", Setup.up(2),
            "replica(2, 0, *) = 2049 0", "read(1, 0) = 6");
        Script.run("there is one GOOD one", Setup.FILE, "append(2, 1, 5) = 1", Setup.down(1, 2), "read(1, 0) = 5");
        Script.run("there is none", Setup.FILE, "append(2, 1, 5) = 1", "pass(2) = 2", Setup.down(0, 1, 2), "read(1, 0) = NOUNIT");
        Script.run("there are none but those left behind", Setup.FILE, "append(2, 1, 5) = 1", Setup.down(0), "append(2, 1, 6) = 1", Setup.up(0),
            Setup.down(1, 2), "read(1, 0) = NOUNIT");
        Script.run("that of the FIRST, not of one left behind", Setup.FILE, "append(2, 1, 5) = 1", Setup.down(0), "append(2, 1, 6) = 1", "pass(1) = 1",
            Setup.up(0), "replica(0, 0, 1) = 1", "read(1, 0) = 6");
        Script.run("of that block, not of another", Setup.FILE, Setup.FILL, "append(2, 1, 20) = 1", "pass(2) = 2", "block(1, 1, 2) = 25", Setup.down(0, 3, 4),
            "read(1, 7) = 57", "read(1, 8) = NOUNIT", Setup.up(0), Setup.down(1, 2), "read(1, 7) = 57", "read(1, 8) = 20");
    }

    private static void closedFiles() {
        Script.sentence("in the last block of a CLOSED FILE k % 8 must also be below the b of CLOSE, if this was not 0.");
        // Replicas 0 and 1 have a later stamp and 2 units since a lost renewal; 2 has the block's STAMP and 1 unit.
        String lostRenewal = Setup.FILE + Setup.units(2) + "pass(3) = 3\n" + Setup.down(2) + Setup.ONLY_JOURNAL_0 + "append(2, 1, 9) = LOST\n"
            + Setup.WITHOUT_JOURNAL_0 + "takeover(0) = 2\n" + Setup.down(0, 1) + Setup.up(2);
        Script.run("its replicas have more", lostRenewal, "close(2, 1) = 0", "journal(1, 2, *) = 2 3 1 1 0", Setup.up(0, 1), "block(1, 0, *) = 0 2049 3 2 0",
            "read(1, 0) = 10", "read(1, 1) = NOUNIT", "node(1, 4) = 1");
        Script.run("the same replicas while it is open", lostRenewal, Setup.up(0, 1), "read(1, 0) = 10", "read(1, 1) = 11", "read(1, 2) = NOUNIT");
        Script.run("so after a takeover", lostRenewal, "close(2, 1) = 0", Setup.up(0, 1), "takeover(1) = 3", "read(1, 0) = 10", "read(1, 1) = NOUNIT");
        Script.run("just below the b of CLOSE", Setup.FILE, Setup.units(3), "pass(6) = 6", "close(2, 1) = 0", "read(1, 2) = 12", "read(1, 3) = NOUNIT");
        Script.run("not in a block before the last", Setup.FILE, Setup.FILL, "append(2, 1, 20) = 1", "pass(2) = 2", "close(2, 1) = 0",
            "journal(0, 3, *) = 1 3 1 1 0", "read(1, 0) = 50", "read(1, 7) = 57", "read(1, 8) = 20", "read(1, 9) = NOUNIT");
        Script.run("it was 0: the block before is whole", Setup.FILE, Setup.FILL, "append(2, 1, 20) = 1", "close(-1, 1) = 0", "journal(0, 4, *) = 1 3 1 0 0",
            "read(1, 0) = 50", "read(1, 7) = 57", "read(1, 8) = NOUNIT");
        Script.run("it was 8", Setup.FILE, Setup.FILL, "close(2, 1) = 0", "read(1, 7) = 57", "read(1, 8) = NOUNIT");
        Script.run("a number that is used again has no limit of the old file", Setup.FILE, "append(2, 1, 5) = 1", "pass(2) = 2", "close(2, 1) = 0",
            "remove(1) = 0", "make(2, 0, 0) = 1", Setup.units(3), "pass(6) = 6", "read(1, 2) = 12", "close(2, 1) = 0", "read(1, 2) = 12");
    }

    private static void thereIsNone() {
        Script.sentence("10000000000 if there is none, or no master is ACTIVE.");
        String oneUnit = Setup.FILE + "append(2, 1, 5) = 1\npass(2) = 2\n";
        Script.run("the unit behind the last", oneUnit, "read(1, 1) = 10000000000");
        Script.run("the block behind the last", oneUnit, "read(1, 8) = 10000000000");
        Script.run("a file without a block", Setup.FILE, "read(1, 0) = 10000000000");
        Script.run("too small", oneUnit, "read(1, -1) = 10000000000", "read(1, -8) = 10000000000", "read(1, -2147483648) = 10000000000");
        Script.run("too large", oneUnit, "read(1, 24) = 10000000000", "read(1, 2147483647) = 10000000000");
        Script.run("a file too small", oneUnit, "read(-1, 0) = 10000000000", "read(-2147483648, 0) = 10000000000");
        Script.run("a file too large", oneUnit, "read(12, 0) = 10000000000", "read(2147483647, 0) = 10000000000");
        Script.run("a directory", oneUnit, "make(-1, 0, 1) = 2", "read(2, 0) = 10000000000", "read(0, 0) = 10000000000");
        Script.run("an absent one", oneUnit, "read(2, 0) = 10000000000", "read(11, 0) = 10000000000");
        Script.run("a removed one", oneUnit, "close(2, 1) = 0", "remove(1) = 0", "read(1, 0) = 10000000000");
        Script.run("no master at first", "read(0, 0) = 10000000000", "read(1, 0) = 10000000000");
        Script.run("the master went DOWN", oneUnit, "power(2, 0, down) = true", "read(1, 0) = 10000000000", "takeover(1) = 2", "read(1, 0) = 5");
        Script.run("units that are no answers of this kind", Setup.FILE, Setup.down(1, 2, 3, 4), "append(2, 1, 1410065408) = 1", "read(1, 0) = 1410065408",
            "node(1, 4) = 1");
    }
}
