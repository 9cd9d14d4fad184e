/** The edges that promise 15 names, sentence by sentence. */
public final class Edges15JournalTest {
    public static void main(String[] args) {
        Script.sentence("Of a journal: k -1: what 0: how many records it has, 1: its PROMISE, 2: 1 if it is IN TOUCH, else 0, 3: its BASE;");
        Script.run("at first", Script.times(3, "journal(@, -1, *) = 0 0 0 0"));
        Script.run("with records", Setup.FILE, "takeover(1) = 2", "fold() = 3", "make(0, 0, 1) = 2", Script.times(3, "journal(@, -1, *) = 2 2 1 1"));
        Script.run("DOWN and still in touch", Setup.FILE, "power(1, 2, down) = true", "journal(2, -1, *) = 1 1 1 0");
        Script.run("DOWN and in touch no more", Setup.FILE, "power(1, 2, down) = true", "make(0, 0, 1) = 2", "journal(2, -1, *) = 1 1 0 0");
        Script.run("without a master", Setup.FILE, "power(2, 0, down) = true", "journal(0, -1, *) = 1 1 1 0");
        Script.run("40 records", Setup.FILE, "make(-1, 0, 6) = 2", Setup.pairs(19, 3), "journal(0, -1, *) = 40 1 1 0", "fold() = 3",
            "journal(0, -1, *) = 40 1 1 40");

        Script.sentence("else of record k what 0: its epoch, 1: its kind, 2..4: a, b, c.");
        Script.run("the first and the last", "takeover(0) = 1", "make(3, 0, 7) = 1", "takeover(0) = 2", "move(1, 0, 6) = 0", "journal(0, 0, *) = 1 0 1 7 3",
            "journal(0, 1, *) = 2 5 1 6 0");
        Script.run("of a directory c is -1", "takeover(0) = 1", "make(-1, 0, 7) = 1", "journal(0, 0, *) = 1 0 1 7 -1");
        Script.run("of a journal that is DOWN", Setup.FILE, "power(1, 1, down) = true", "make(0, 0, 1) = 2", "journal(1, 0, *) = 1 0 1 0 2",
            "journal(1, 1, 0) = NONE", "journal(2, 1, 0) = 1");
        Script.run("the 40th", Setup.FILE, "make(-1, 0, 6) = 2", Setup.pairs(19, 3), "journal(2, 39, *) = 1 4 3 0 0", "journal(2, 40, 0) = NONE");

        Script.sentence("NONE if there is none, it is FOLDED, or for others.");
        Script.run("behind the last", Setup.FILE, "journal(0, 1, *) = NONE NONE NONE NONE NONE");
        Script.run("without records", "journal(0, 0, *) = NONE NONE NONE NONE NONE");
        Script.run("a record too small", Setup.FILE, "journal(0, -2, *) = NONE NONE NONE NONE NONE", "journal(1, -2, 0) = NONE", "journal(0, -2147483648, 0) = NONE");
        Script.run("a record too large", Setup.FILE, "journal(0, 1000, 0) = NONE", "journal(0, 3000, 0) = NONE", "journal(2, 1, 0) = NONE",
            "journal(0, 2147483647, 0) = NONE");
        Script.run("folded", Setup.FILE, "make(0, 0, 1) = 2", "fold() = 3", "make(0, 0, 2) = 3", "journal(0, 0, *) = NONE NONE NONE NONE NONE",
            "journal(0, 1, *) = NONE NONE NONE NONE NONE", "journal(0, 2, 0) = 1");
        Script.run("not folded in a journal that was DOWN", Setup.FILE, "power(1, 1, down) = true", "fold() = 2", "journal(0, 0, 0) = NONE", "journal(1, 0, 0) = 1");
        Script.run("a journal too small", Setup.FILE, "journal(-1, -1, *) = NONE NONE NONE NONE", "journal(-1, 0, 0) = NONE", "journal(-2147483648, -1, 0) = NONE");
        Script.run("a journal too large", Setup.FILE, "journal(3, -1, *) = NONE NONE NONE NONE", "journal(3, 0, 0) = NONE", "journal(2147483647, -1, 0) = NONE");
        Script.run("a what of the journal too small", Setup.FILE, "journal(0, -1, -1) = NONE", "journal(0, -1, -2147483648) = NONE");
        Script.run("a what of the journal too large", Setup.FILE, "journal(0, -1, 4) = NONE", "journal(0, -1, 2147483647) = NONE");
        Script.run("a what of a record too small", Setup.FILE, "journal(0, 0, -1) = NONE", "journal(0, 0, -2147483648) = NONE");
        Script.run("a what of a record too large", Setup.FILE, "journal(0, 0, 5) = NONE", "journal(0, 0, 2147483647) = NONE");
        Script.end();
    }
}
