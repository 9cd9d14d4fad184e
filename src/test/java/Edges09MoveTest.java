/** The edges that promise 9 names, part by part. */
public final class Edges09MoveTest {
    // Directories 1 in the root, 2 in 1 and 3 in 2, and file 4 in the root.
    private static final String TREE = "takeover(0) = 1\nmake(-1, 0, 0) = 1\nmake(-1, 1, 0) = 2\nmake(-1, 2, 0) = 3\nmake(2, 0, 4) = 4\n";

    public static void main(String[] args) {
        what();
        whereTo();
        notBelow();
        lost();
        Script.end();
    }

    private static void what() {
        Script.sentence("Inode i (not ABSENT, not the ROOT)");
        Script.run("an open file", TREE, "move(4, 3, 7) = 0", "node(4, *) = 2 31 2 0 0", "journal(0, 4, *) = 1 5 4 31 0");
        Script.run("a closed file", TREE, "close(2, 4) = 0", "move(4, 3, 7) = 0", "node(4, *) = 3 31 NONE 0 0");
        Script.run("an empty directory", TREE, "move(3, 0, 7) = 0", "node(3, *) = 1 7 NONE 0 0");
        Script.run("a directory with inodes", TREE, "move(2, 0, 7) = 0", "node(2, *) = 1 7 NONE 1 0", "node(2, 5) = 3");
        Script.run("an absent one", TREE, "move(5, 0, 7) = REFUSED", "move(11, 0, 7) = REFUSED", "status(2) = 4");
        Script.run("a removed one", TREE, "remove(3) = 0", "move(3, 0, 7) = REFUSED", "status(2) = 5");
        Script.run("the root", TREE, "move(0, 1, 7) = REFUSED", "move(0, 0, 7) = REFUSED", "node(0, 1) = NONE", "status(2) = 4");
        Script.run("too small", TREE, "move(-1, 0, 7) = REFUSED", "move(-2147483648, 0, 7) = REFUSED", "status(2) = 4");
        Script.run("too large", TREE, "move(12, 0, 7) = REFUSED", "move(2147483647, 0, 7) = REFUSED", "status(2) = 4");
    }

    private static void whereTo() {
        Script.sentence("gets a name in a DIRECTORY that has none of this name,");
        Script.run("the least name", TREE, "move(4, 3, 0) = 0", "node(4, 1) = 24");
        Script.run("the greatest name", TREE, "move(4, 3, 7) = 0", "node(4, 1) = 31");
        Script.run("a name too small", TREE, "move(4, 0, -1) = REFUSED", "move(4, 1, -1) = REFUSED", "move(4, 0, -2147483648) = REFUSED", "node(4, 1) = 4");
        Script.run("a name too large", TREE, "move(4, 0, 8) = REFUSED", "move(4, 1, 8) = REFUSED", "move(4, 0, 2147483647) = REFUSED", "node(4, 1) = 4");
        Script.run("a directory too small", TREE, "move(4, -1, 0) = REFUSED", "move(4, -2147483648, 0) = REFUSED", "node(4, 1) = 4");
        Script.run("a directory too large", TREE, "move(4, 12, 0) = REFUSED", "move(4, 2147483647, 0) = REFUSED", "node(4, 1) = 4");
        // 8 * 2^29 is 0 in ints.
        Script.run("a directory whose place wraps around", TREE, "move(4, 536870912, 1) = REFUSED", "move(4, -536870912, 1) = REFUSED", "node(4, 1) = 4");
        Script.run("an absent directory", TREE, "move(4, 5, 0) = REFUSED", "move(4, 11, 0) = REFUSED", "node(4, 1) = 4");
        Script.run("a removed directory", TREE, "remove(3) = 0", "move(4, 3, 0) = REFUSED");
        Script.run("an open file is no directory", TREE, "move(1, 4, 0) = REFUSED", "node(1, 1) = 0");
        Script.run("a closed file is no directory", TREE, "close(2, 4) = 0", "move(1, 4, 0) = REFUSED", "node(1, 1) = 0");
        Script.run("a file into itself", TREE, "move(4, 4, 0) = REFUSED", "node(4, 1) = 4");
        Script.run("the name is taken", TREE, "move(4, 0, 0) = REFUSED", "move(4, 1, 0) = REFUSED", "node(4, 1) = 4");
        Script.run("the name is taken by the inode itself", TREE, "move(4, 0, 4) = REFUSED", "status(2) = 4");
        Script.run("another name in its directory", TREE, "move(4, 0, 5) = 0", "node(0, 9) = NONE", "node(0, 10) = 4", "node(0, 3) = 2");
        Script.run("the same name in another directory", TREE, "move(4, 1, 4) = 0", "node(4, 1) = 12", "node(0, 9) = NONE", "node(1, 3) = 2");
        Script.run("the name is free since a move", TREE, "move(4, 3, 4) = 0", "move(1, 0, 4) = 0", "node(0, 9) = 1");
    }

    private static void notBelow() {
        Script.sentence("and that is not i nor below it: 0.");
        Script.run("the directory is i", TREE, "move(1, 1, 7) = REFUSED", "move(3, 3, 7) = REFUSED", "status(2) = 4");
        Script.run("the directory is in i", TREE, "move(1, 2, 7) = REFUSED", "move(2, 3, 7) = REFUSED", "status(2) = 4");
        Script.run("the directory is further below", TREE, "move(1, 3, 7) = REFUSED", "status(2) = 4");
        Script.run("the directory is above", TREE, "move(3, 1, 7) = 0", "move(3, 0, 7) = 0", "move(2, 0, 6) = 0");
        Script.run("the directory is beside", TREE, "make(-1, 0, 5) = 5", "move(5, 1, 7) = 0", "move(2, 5, 0) = 0", "move(5, 3, 0) = REFUSED",
            "move(1, 3, 7) = REFUSED");
        Script.run("below no more", TREE, "move(3, 0, 7) = 0", "move(1, 3, 0) = 0", "node(1, 1) = 24", "move(3, 2, 0) = REFUSED");
        // The longest way up: 11 directories, each in the one before it.
        StringBuilder chain = new StringBuilder("takeover(0) = 1\n");
        for (int i = 1; i < 12; i++) {
            chain.append(String.format("make(-1, %d, 3) = %d%n", i - 1, i));
        }
        Script.run("as deep as it can be", chain.toString(), "move(1, 11, 0) = REFUSED", "move(2, 11, 0) = REFUSED", "move(10, 11, 0) = REFUSED",
            "move(11, 0, 0) = 0", "move(1, 11, 0) = 0", "move(11, 10, 0) = REFUSED", "move(10, 0, 1) = 0", "move(11, 10, 0) = 0");
    }

    private static void lost() {
        Script.sentence("all these change nothing; then LOST.");
        Script.run("REFUSED, then LOST", TREE, Setup.ONLY_JOURNAL_0, "move(1, 3, 7) = REFUSED", "status(0) = 0", "move(4, 3, 7) = LOST", "status(0) = NONE",
            "journal(0, 4, *) = 1 5 4 31 0", "journal(1, -1, *) = 4 1 0 0");
    }
}
