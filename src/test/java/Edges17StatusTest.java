/** The edges that promise 17 names, sentence by sentence. */
public final class Edges17StatusTest {
    public static void main(String[] args) {
        Script.sentence("What 0: the ACTIVE master; 1: the epoch of the latest that TOOK OVER (0 at first);");
        Script.run("at first", "status(1) = 0");
        Script.run("the least and the greatest master", "takeover(0) = 1", "status(0) = 0", "takeover(1) = 2", "status(0) = 1");
        Script.run("the epoch stays when the master goes DOWN", "takeover(0) = 1", "takeover(0) = 2", "power(2, 0, down) = true", "status(1) = 2");
        Script.run("a refused takeover has no epoch", "takeover(0) = 1", Setup.ONLY_JOURNAL_0, "takeover(0) = REFUSED", "status(1) = 1");
        Script.run("the epoch, though two journals that promised it are DOWN", "takeover(0) = 1", "takeover(0) = 2", Setup.ONLY_JOURNAL_0, "status(1) = 2");

        Script.sentence("2: how many records the log of those IN TOUCH has;");
        Script.run("none", "takeover(0) = 1", "status(2) = 0");
        Script.run("folded ones count", Setup.FILE, "fold() = 3", "status(2) = 1");
        Script.run("not that of journal 0, if it is not in touch", Setup.FILE, "power(1, 0, down) = true", "make(0, 0, 1) = 2", "power(1, 0, up) = true",
            "journal(0, -1, 0) = 1", "status(2) = 2");
        Script.run("not that of journal 2, if it is not in touch", Setup.FILE, "power(1, 2, down) = true", "make(0, 0, 1) = 2", "status(2) = 2");
        Script.run("all in touch are DOWN", Setup.FILE, Setup.ONLY_JOURNAL_0, "power(1, 0, down) = true", "status(2) = 1");

        Script.sentence("3: the LOADS of all data nodes together;");
        Script.run("none", "status(3) = 0");
        Script.run("with DOWN ones and without a master", Setup.FILE, "append(2, 1, 5) = 1", Setup.down(0), "power(2, 0, down) = true", "status(3) = 3");
        Script.run("with those left behind and in no row", Setup.FILE, "append(2, 1, 5) = 1", Setup.down(0), "close(2, 1) = 0", "node(1, 3) = 0", "status(3) = 3");
        Script.run("as many as there can be", everyReplica(), "status(3) = 48");

        Script.sentence("4: how many inodes are not ABSENT.");
        Script.run("the root alone", "takeover(0) = 1", "status(4) = 1");
        Script.run("all", "takeover(0) = 1", "make(-1, 0, 0) = 1", Script.times(8, "make(-1, 1, @) = any"), "make(0, 0, 1) = 10", "make(0, 0, 2) = 11",
            "status(4) = 12", "remove(5) = 0", "status(4) = 11");

        Script.sentence("NONE for 0, 2, 4 if no master is ACTIVE, and for others.");
        Script.run("no master at first", "status(0) = NONE", "status(2) = NONE", "status(4) = NONE");
        Script.run("the master went DOWN", Setup.FILE, "append(2, 1, 5) = 1", "power(2, 0, down) = true", "status(*) = NONE 1 NONE 3 NONE");
        Script.run("after a lost call", Setup.FILE, Setup.ONLY_JOURNAL_0, "make(0, 0, 1) = LOST", "status(*) = NONE 1 NONE 0 NONE");
        Script.run("too small", "status(-1) = NONE", "takeover(0) = 1", "status(-1) = NONE", "status(-2147483648) = NONE");
        Script.run("too large", "status(5) = NONE", "takeover(0) = 1", "status(5) = NONE", "status(2147483647) = NONE");
        Script.end();
    }

    // Sixteen blocks with three replicas each, of which nine files have one and more; three data nodes are enough.
    private static String everyReplica() {
        StringBuilder all = new StringBuilder("takeover(0) = 1\n" + Setup.down(3, 4) + "make(-1, 0, 0) = 1\n"
            + Script.times(7, "make(2, 1, @) = any") + "make(2, 0, 1) = 9\nmake(2, 0, 2) = 10\n");
        for (int f = 2; f <= 8; f++) {
            all.append(Script.times(8, "append(2, " + f + ", @) = any")).append("pass(32) = 16\nappend(2, ").append(f).append(", 9) = 1\npass(32) = 2\n");
        }
        return all + "append(2, 9, 5) = 1\nappend(2, 10, 5) = 1\n";
    }
}
