public final class Promise10FoldTest {
    public static void main(String[] args) {
        Script.run("no master", "fold() = NONE", "takeover(0) = 1", "power(2, 0, down) = true", "fold() = NONE");
        Script.run("folded records count but can't be shown",
            "takeover(0) = 1", "fold() = 3", "make(2, 0, 0) = 1", "make(-1, 0, 1) = 2", "fold() = 3",
            Script.times(3, "journal(@, -1, *) = 2 1 1 2\njournal(@, 1, *) = NONE NONE NONE NONE NONE"), "status(2) = 2",
            "node(1, 0) = 2", "make(0, 2, 0) = 3", "journal(0, 1, 0) = NONE", "journal(0, 2, *) = 1 0 3 16 0",
            "append(2, 1, 5) = 1", "block(1, 0, 1) = 2051", "fold() = 3", "fold() = 3", "journal(2, -1, *) = 4 1 1 4");
        Script.run("only journals that are up and in touch",
            "takeover(0) = 1", "make(0, 0, 0) = 1", "power(1, 0, down) = true", "fold() = 2", "journal(0, -1, *) = 1 1 1 0",
            "journal(1, -1, *) = 1 1 1 1", "make(0, 0, 1) = 2", "power(1, 0, up) = true", "fold() = 2", "journal(0, -1, *) = 1 1 0 0",
            "journal(0, 0, *) = 1 0 1 0 0", "power(1, 1, down) = true", "power(1, 2, down) = true", "fold() = 0", "status(0) = 0",
            "power(1, 1, up) = true", "fold() = 1");
        Script.run("a takeover gives the log with its base, and folded records still tell the inodes",
            "takeover(0) = 1", "make(-1, 0, 0) = 1", "make(2, 1, 4) = 2", "append(2, 2, 5) = 1", "pass(2) = 2", "close(2, 2) = 0",
            "power(1, 2, down) = true", "make(0, 0, 7) = 3", "fold() = 2", "power(1, 2, up) = true", "takeover(1) = 2",
            "journal(2, -1, *) = 5 2 1 5", "journal(2, 0, 0) = NONE", "node(2, *) = 3 12 NONE 1 1", "node(3, *) = 2 7 0",
            "read(2, 0) = 5", "status(*) = 1 2 5 3 4");
        Script.run("the last epoch of a folded log counts at a takeover",
            "takeover(0) = 1", "make(-1, 0, 0) = 1", "make(-1, 0, 1) = 2", "power(1, 0, down) = true", "takeover(0) = 2",
            "make(-1, 0, 2) = 3", "fold() = 2", "power(1, 0, up) = true", "power(1, 1, down) = true", "takeover(0) = 3",
            "journal(0, -1, *) = 3 3 1 3", "status(4) = 4");
        Script.run("a longer base of the older log is not kept",
            "takeover(0) = 1", "make(-1, 0, 0) = 1", "power(1, 0, down) = true", "power(1, 1, down) = true", "fold() = 1",
            "power(1, 0, up) = true", "power(1, 1, up) = true", "takeover(0) = 2", Script.times(3, "journal(@, -1, *) = 1 2 1 0"));
        Script.end();
    }
}
