/** The edges that promise 6 names, sentence by sentence. */
public final class Edges06PassTest {
    public static void main(String[] args) {
        howOften();
        whichBlock();
        whichReplica();
        wrongInputs();
        Script.end();
    }

    private static void howOften() {
        Script.sentence("Up to n times, 0..32:");
        Script.run("0 times", Setup.FILE, Setup.units(4), "pass(0) = 0", "replica(1, 0, 1) = 0");
        Script.run("once", Setup.FILE, Setup.units(4), "pass(1) = 1", "replica(1, 0, 1) = 1", "replica(2, 0, 1) = 0");
        String threeFiles = "takeover(0) = 1\n" + Script.times(3, "make(2, 0, @) = any")
            + Script.times(8, "append(2, 1, @) = any\nappend(2, 2, @) = any\nappend(2, 3, @) = any");
        Script.run("32 times", threeFiles, "pass(32) = 32", "pass(32) = 16");
        Script.run("31 times", threeFiles, "pass(31) = 31", "pass(32) = 17");
        Script.run("up to n", Setup.FILE, Setup.units(4), "pass(9) = 8", "pass(1) = 0");
        Script.run("just as many as there are", Setup.FILE, Setup.units(4), "pass(8) = 8", "pass(32) = 0");
        Script.run("there is nothing to pass", "takeover(0) = 1", "pass(32) = 0", "pass(0) = 0");
    }

    private static void whichBlock() {
        Script.sentence("of the last blocks of OPEN FILES the least in which a GOOD replica has fewer units than "
            + "the GOOD one on the nearest lower data node that has one;");
        Script.run("the least block, not the least file", "takeover(0) = 1", "make(2, 0, 0) = 1", "make(2, 0, 1) = 2", "append(2, 2, 5) = 1",
            "append(2, 1, 5) = 1", "pass(1) = 1", "replica(1, 0, 1) = 1", "pass(1) = 1", "replica(2, 0, 1) = 1", "pass(1) = 1", "replica(3, 1, 1) = 1");
        Script.run("the least block again as soon as it lacks one", "takeover(0) = 1", "make(2, 0, 0) = 1", "make(2, 0, 1) = 2", "append(2, 1, 5) = 1",
            "append(2, 2, 5) = 1", "pass(3) = 3", "replica(3, 1, 1) = 1", "append(2, 1, 6) = 2", "pass(1) = 1", "replica(1, 0, 1) = 2",
            "replica(4, 1, 1) = 0");
        Script.run("not of closed files", lostStamp(1), "append(2, 1, 20) = 2", Setup.down(0, 1), Setup.up(2), "close(2, 1) = 0", Setup.up(0, 1),
            "block(1, 0, 2) = 3", "replica(0, 0, 1) = 2", "replica(1, 0, 1) = 1", "pass(32) = 0", "replica(1, 0, 1) = 1");
        Script.run("not the block before the last", lostStamp(7), "append(2, 1, 20) = 8", Setup.down(0, 1), Setup.up(2), "append(2, 1, 30) = 8",
            "append(2, 1, 31) = 1", Setup.up(0, 1), "block(1, 0, 2) = 3", "replica(0, 0, 1) = 8", "replica(1, 0, 1) = 7", "pass(32) = 2",
            "replica(1, 0, 1) = 7", "block(1, 1, 3) = 1");
        Script.run("as many units are not fewer", Setup.FILE, "append(2, 1, 5) = 1", "pass(2) = 2", "pass(1) = 0");
        Script.run("more units are not fewer", Setup.FILE, Setup.units(2), Setup.down(1), "pass(2) = 2", Setup.up(1), Setup.down(0), "replica(1, 0, 1) = 0",
            "replica(2, 0, 1) = 2", "pass(32) = 0");
        Script.run("replicas that are not GOOD get nothing", Setup.FILE, "append(2, 1, 5) = 1", Setup.down(1), "append(2, 1, 6) = 1", Setup.up(1),
            "pass(32) = 1", "replica(1, 0, *) = 2049 0", "replica(2, 0, *) = 2050 1");
        Script.run("replicas that are DOWN get nothing", Setup.FILE, "append(2, 1, 5) = 1", Setup.down(1, 2), "pass(32) = 0", "replica(1, 0, 1) = 0");
        Script.run("replicas that are not GOOD give nothing", Setup.FILE, "append(2, 1, 5) = 1", Setup.down(0), "append(2, 1, 6) = 1", Setup.up(0),
            "pass(32) = 1", "replica(2, 0, *) = 2050 1", "pass(32) = 0");
        Script.run("without a GOOD one", Setup.FILE, "append(2, 1, 5) = 1", Setup.down(0, 1, 2), "pass(32) = 0");
        Script.run("a file without a block", Setup.FILE, "pass(32) = 0");
    }

    // Replicas 0 and 1 have a later stamp than 2, so that neither theirs nor that of 2 makes the block hang when it is DOWN.
    private static String lostStamp(int units) {
        return Setup.FILE + Setup.units(units) + "pass(32) = " + 2 * units + "\n" + Setup.down(2) + Setup.ONLY_JOURNAL_0 + "append(2, 1, 9) = LOST\n"
            + Setup.WITHOUT_JOURNAL_0 + "takeover(0) = 2\n";
    }

    // Tended while it was closed, the block has a fourth replica when the CLOSE is given up; the FIRST has three units more.
    private static String fourGood() {
        return Setup.CLOSE_HOLDS + Setup.down(2) + "tend(-1) = 0\n" + Setup.up(2) + Setup.GIVEN_UP + "block(1, 0, 2) = 15\n"
            + Script.times(3, "append(2, 1, 2@) = any");
    }

    private static void whichReplica() {
        Script.sentence("of these replicas the one on the least data node gets the unit of that nearest one which it lacks first.");
        Script.run("the least data node", Setup.FILE, Setup.units(3), "pass(2) = 2", "replica(1, 0, 1) = 2", "replica(2, 0, 1) = 0", "pass(1) = 1",
            "replica(1, 0, 1) = 3", "replica(2, 0, 1) = 0");
        Script.run("the unit that it lacks first", Setup.FILE, Setup.units(3), Setup.down(2), "pass(1) = 1", "read(1, 0) = 10", "read(1, 1) = NOUNIT",
            "pass(1) = 1", "read(1, 1) = 11", "read(1, 2) = NOUNIT", "pass(1) = 1", "read(1, 2) = 12");
        Script.run("from the nearest lower one", Setup.FILE, Setup.units(3), "pass(1) = 1", Setup.down(0), "pass(32) = 1", "replica(2, 0, 1) = 1",
            Setup.down(1), "read(1, 0) = 10");
        Script.run("from the nearest lower one, not from the FIRST, which has fewer units", fourGood(), Setup.down(1), "pass(4) = 4", "replica(2, 0, 1) = 5",
            "replica(3, 0, 1) = 3", Setup.up(1), Setup.down(0), "block(1, 0, *) = 0 2049 14 2", "pass(1) = 1", "replica(3, 0, 1) = 4", "pass(32) = 1",
            "replica(3, 0, 1) = 5", "replica(1, 0, 1) = 2", Setup.down(1, 2), "read(1, 3) = 21", "read(1, 4) = 22");
        Script.run("four replicas, one behind the other", fourGood(), "pass(3) = 3", "replica(1, 0, 1) = 5", "replica(2, 0, 1) = 2", "pass(32) = 6",
            "block(1, 0, *) = 0 2049 15 5");
        Script.run("the nearest one is further away", Setup.FILE, Setup.units(3), Setup.down(1), "pass(32) = 3", "replica(2, 0, 1) = 3",
            "replica(1, 0, 1) = 0");
        Script.run("from the first to the last data node", Setup.FILE, "append(2, 1, 5) = 1", "make(0, 0, 1) = 2", Setup.down(1, 2, 3), "append(0, 2, 6) = 1",
            "block(2, 0, 2) = 17", "pass(32) = 1", "replica(4, 1, 1) = 1", Setup.down(0), "read(2, 0) = 6");
        Script.run("the eighth unit", Setup.FILE, Setup.units(8), "pass(7) = 7", "replica(1, 0, 1) = 7", "pass(1) = 1", "replica(1, 0, 1) = 8", "pass(32) = 8",
            "read(1, 7) = 17");
    }

    private static void wrongInputs() {
        Script.sentence("How many times. NONE if no master is ACTIVE;");
        Script.run("at first", "pass(0) = NONE", "pass(32) = NONE");
        Script.run("the master went DOWN", Setup.FILE, "append(2, 1, 5) = 1", "power(2, 0, down) = true", "pass(32) = NONE", "replica(1, 0, 1) = 0");

        Script.sentence("REFUSED for another n.");
        Script.run("too small", Setup.FILE, "append(2, 1, 5) = 1", "pass(-1) = REFUSED", "pass(-2147483648) = REFUSED", "replica(1, 0, 1) = 0");
        Script.run("too large", Setup.FILE, "append(2, 1, 5) = 1", "pass(33) = REFUSED", "pass(2147483647) = REFUSED", "replica(1, 0, 1) = 0");
    }
}
