public final class Promise09MoveTest {
    // Directories 1, 2 in 1 and 3 in 2; file 4 in 3; directory 5 in the root.
    private static final String TREE = "takeover(0) = 1\nmake(-1, 0, 0) = 1\nmake(-1, 1, 1) = 2\nmake(-1, 2, 2) = 3\n"
        + "make(2, 3, 3) = 4\nmake(-1, 0, 4) = 5\n";

    public static void main(String[] args) {
        Script.run("no master", "move(1, 0, 0) = NONE", "move(99, 99, 99) = NONE");
        Script.run("there is no such number",
            TREE, "move(0, 5, 0) = REFUSED", "move(6, 0, 7) = REFUSED", "move(-1, 0, 7) = REFUSED", "move(12, 0, 7) = REFUSED",
            "move(1, 6, 0) = REFUSED", "move(1, -1, 0) = REFUSED", "move(1, 12, 0) = REFUSED", "move(1, 4, 0) = REFUSED",
            "move(4, 0, 8) = REFUSED", "move(4, 0, -1) = REFUSED", "status(2) = 5");
        Script.run("the name is taken, also by itself",
            TREE, "move(1, 0, 4) = REFUSED", "move(1, 0, 0) = REFUSED", "move(4, 3, 3) = REFUSED", "status(2) = 5");
        Script.run("not into itself nor below",
            TREE, "move(1, 1, 0) = REFUSED", "move(1, 2, 0) = REFUSED", "move(1, 3, 0) = REFUSED", "move(2, 2, 0) = REFUSED",
            "move(2, 3, 0) = REFUSED", "move(2, 1, 0) = 0", "move(3, 1, 7) = 0", "move(2, 3, 0) = 0", "move(1, 2, 0) = REFUSED");
        Script.run("with all that is in it",
            TREE, "move(2, 5, 6) = 0", "journal(0, 5, *) = 1 5 2 46 0", "node(2, *) = 1 46 NONE 1 0", "node(1, 3) = 0",
            "node(1, 6) = NONE", "node(5, 3) = 1", "node(5, 11) = 2", "node(2, 7) = 3", "move(5, 3, 0) = REFUSED",
            "move(1, 3, 0) = 0", "node(1, 1) = 24");
        Script.run("an open file goes on, a closed one keeps its units",
            TREE, "append(2, 4, 9) = 1", "move(4, 0, 7) = 0", "node(4, *) = 2 7 2 1 0", "append(2, 4, 8) = 2", "pass(4) = 4",
            "close(2, 4) = 0", "move(4, 5, 7) = 0", "node(4, *) = 3 47 NONE 1 2", "read(4, 1) = 8", "remove(3) = 0",
            "make(1, 0, 7) = 3");
        Script.run("a new name in the same directory", TREE, "move(5, 0, 5) = 0", "node(5, 1) = 5", "node(0, 9) = NONE",
            "node(0, 10) = 5", "make(0, 0, 4) = 6");
        String forty = TREE + "remove(5) = 0\n" + Script.times(17, "make(-1, 0, 7) = 5\nremove(5) = 0");
        Script.run("the last record that has room", TREE, Script.times(17, "make(-1, 0, 7) = 6\nremove(6) = 0"), "status(2) = 39",
            "move(5, 0, 5) = 0", "status(2) = 40", "move(5, 0, 4) = FULL");
        Script.run("full", forty, "status(2) = 40", "move(1, 0, 5) = FULL", "move(1, 1, 5) = REFUSED", "node(1, 1) = 0",
            "fold() = 3", "move(1, 0, 5) = 0");
        Script.run("lost", TREE, "power(1, 0, down) = true", "power(1, 1, down) = true", "move(1, 0, 5) = LOST",
            "journal(2, 5, *) = 1 5 1 5 0", "status(0) = NONE");
        Script.end();
    }
}
