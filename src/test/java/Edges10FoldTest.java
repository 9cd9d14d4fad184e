/** The edges that promise 10 names, part by part. */
public final class Edges10FoldTest {
    public static void main(String[] args) {
        Script.sentence("The BASE of all UP journals that are IN TOUCH becomes the number of their records: how many journals these are;");
        Script.run("logs without records", "takeover(0) = 1", "fold() = 3", Script.times(3, "journal(@, -1, *) = 0 1 1 0"), "make(2, 0, 0) = 1",
            "journal(0, 0, 0) = 1");
        Script.run("one record", Setup.FILE, "fold() = 3", Script.times(3, "journal(@, -1, *) = 1 1 1 1\njournal(@, 0, 0) = NONE"));
        Script.run("once more without new records", Setup.FILE, "fold() = 3", "fold() = 3", "journal(0, -1, 3) = 1");
        Script.run("once more with a new record", Setup.FILE, "fold() = 3", "make(0, 0, 1) = 2", "journal(0, 1, 0) = 1", "fold() = 3",
            "journal(0, -1, 3) = 2", "journal(0, 1, 0) = NONE");
        Script.run("40 records", Setup.FILE, "make(-1, 0, 6) = 2", Setup.pairs(19, 3), "make(0, 0, 1) = FULL", "fold() = 3", "make(0, 0, 1) = 3",
            "journal(0, -1, *) = 41 1 1 40");
        Script.run("in touch, but DOWN", Setup.FILE, "power(1, 1, down) = true", "fold() = 2", "journal(1, -1, *) = 1 1 1 0", "journal(1, 0, 0) = 1",
            "journal(0, -1, 3) = 1", "journal(2, -1, 3) = 1");
        Script.run("UP, but not in touch", "power(1, 1, down) = true", Setup.FILE, "power(1, 1, up) = true", "fold() = 2", "journal(1, -1, *) = 0 0 0 0",
            "journal(0, -1, 3) = 1");
        Script.run("one journal, and the master stays", Setup.FILE, Setup.ONLY_JOURNAL_2, "fold() = 1", "status(0) = 0", "journal(2, -1, *) = 1 1 1 1",
            "journal(0, -1, *) = 1 1 1 0");
        Script.run("no journal, and the master stays", Setup.FILE, Setup.ONLY_JOURNAL_2, "power(1, 2, down) = true", "fold() = 0", "status(0) = 0",
            Script.times(3, "journal(@, -1, *) = 1 1 1 0"));
        Script.run("nothing else changes", Setup.FILE, "append(2, 1, 5) = 1", "fold() = 3", "status(*) = 0 1 2 3 2", "node(1, *) = 2 0 2 1 0",
            "block(1, 0, *) = 0 2049 7 0 0");

        Script.sentence("NONE if no master is ACTIVE.");
        Script.run("at first", "fold() = NONE");
        Script.run("the master went DOWN", Setup.FILE, "power(2, 0, down) = true", "fold() = NONE", "journal(0, -1, *) = 1 1 1 0");
        Script.run("after a lost call", Setup.FILE, Setup.ONLY_JOURNAL_0, "make(0, 0, 1) = LOST", "fold() = NONE", "journal(0, -1, *) = 2 1 1 0");
        Script.end();
    }
}
