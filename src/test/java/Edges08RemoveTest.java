/** The edges that promise 8 names. */
public final class Edges08RemoveTest {
    public static void main(String[] args) {
        Script.sentence("A CLOSED FILE, or a DIRECTORY without inodes in it, but not the ROOT, is removed: 0.");
        Script.run("a closed file", Setup.FILE, "close(2, 1) = 0", "remove(1) = 0", "node(1, 0) = 0", "journal(0, 2, *) = 1 4 1 0 0");
        Script.run("a closed file with blocks", Setup.FILE, Setup.FILL, "append(2, 1, 5) = 1", "pass(2) = 2", "close(2, 1) = 0", "remove(1) = 0",
            "node(1, 0) = 0", "status(3) = 6");
        Script.run("an open file", Setup.FILE, "remove(1) = REFUSED", "node(1, 0) = 2", "status(2) = 1");
        Script.run("an empty directory", "takeover(0) = 1", "make(-1, 0, 0) = 1", "remove(1) = 0", "node(1, 0) = 0");
        Script.run("a directory with a closed file", "takeover(0) = 1", "make(-1, 0, 0) = 1", "make(0, 1, 0) = 2", "close(0, 2) = 0", "remove(1) = REFUSED",
            "node(1, 0) = 1");
        Script.run("a directory with an open file", "takeover(0) = 1", "make(-1, 0, 0) = 1", "make(0, 1, 7) = 2", "remove(1) = REFUSED");
        Script.run("a directory with an empty directory", "takeover(0) = 1", "make(-1, 0, 0) = 1", "make(-1, 1, 7) = 2", "remove(1) = REFUSED", "remove(2) = 0",
            "remove(1) = 0");
        Script.run("a directory that is empty again", "takeover(0) = 1", "make(-1, 0, 0) = 1", "make(0, 1, 0) = 2", "close(0, 2) = 0", "remove(2) = 0",
            "remove(1) = 0");
        Script.run("a directory that is empty since a move", "takeover(0) = 1", "make(-1, 0, 0) = 1", "make(0, 1, 0) = 2", "move(2, 0, 1) = 0",
            "remove(1) = 0");
        Script.run("a directory that is not empty since a move", "takeover(0) = 1", "make(-1, 0, 0) = 1", "make(0, 0, 1) = 2", "move(2, 1, 0) = 0",
            "remove(1) = REFUSED");
        Script.run("the empty root", "takeover(0) = 1", "remove(0) = REFUSED", "status(4) = 1", "status(2) = 0");
        Script.run("the root with an inode", Setup.FILE, "remove(0) = REFUSED", "status(4) = 2");
        Script.run("an absent one", "takeover(0) = 1", "remove(1) = REFUSED", "remove(11) = REFUSED", "status(2) = 0");
        Script.run("a removed one", "takeover(0) = 1", "make(-1, 0, 0) = 1", "remove(1) = 0", "remove(1) = REFUSED", "status(2) = 2");
        Script.run("too small", "takeover(0) = 1", "remove(-1) = REFUSED", "remove(-2147483648) = REFUSED", "status(2) = 0");
        Script.run("too large", "takeover(0) = 1", "remove(12) = REFUSED", "remove(2147483647) = REFUSED", "status(2) = 0");
        Script.run("the greatest number", "takeover(0) = 1", "make(-1, 0, 0) = 1", Script.times(8, "make(-1, 1, @) = any"), "make(-1, 0, 1) = 10",
            "make(-1, 0, 2) = 11", "remove(11) = 0", "status(4) = 11");
        Script.run("lost", "takeover(0) = 1", "make(-1, 0, 0) = 1", Setup.ONLY_JOURNAL_0, "remove(0) = REFUSED", "remove(1) = LOST", "status(0) = NONE",
            "journal(0, 1, *) = 1 4 1 0 0");
        Script.end();
    }
}
