/** The edges that promise 12 names, part by part. */
public final class Edges12NodeTest {
    // Directory 1, file 2 open for client 3 with a unit, file 3 closed with a unit; 4 is absent.
    private static final String INODES = "takeover(0) = 1\nmake(-1, 0, 7) = 1\nmake(3, 1, 0) = 2\nmake(0, 1, 7) = 3\nappend(3, 2, 5) = 1\n"
        + "append(0, 3, 6) = 1\npass(4) = 4\nclose(0, 3) = 0\n";

    public static void main(String[] args) {
        states();
        counts();
        names();
        none();
        Script.end();
    }

    private static void states() {
        Script.sentence("Of inode i what 0: 0 ABSENT, 1 DIRECTORY, 2 OPEN, 3 CLOSED;");
        Script.run("each of them", INODES, "node(4, 0) = 0", "node(0, 0) = 1", "node(1, 0) = 1", "node(2, 0) = 2", "node(3, 0) = 3", "node(11, 0) = 0");
        Script.run("a removed one", INODES, "remove(3) = 0", "node(3, 0) = 0");

        Script.sentence("1: its PLACE, NONE for the ROOT;");
        Script.run("places", INODES, "node(1, 1) = 7", "node(2, 1) = 8", "node(3, 1) = 15");
        Script.run("the root", INODES, "node(0, 1) = NONE");
        Script.run("the least place", Setup.FILE, "node(1, 1) = 0");

        Script.sentence("2: its client, NONE if it is not OPEN;");
        Script.run("the least and the greatest client", "takeover(0) = 1", "make(0, 0, 0) = 1", "make(3, 0, 1) = 2", "node(1, 2) = 0", "node(2, 2) = 3");
        Script.run("not open", INODES, "node(3, 2) = NONE", "node(1, 2) = NONE", "node(0, 2) = NONE", "node(4, 2) = NONE");
    }

    private static void counts() {
        Script.sentence("3: how many blocks, in a DIRECTORY how many inodes it has;");
        Script.run("no block", Setup.FILE, "node(1, 3) = 0");
        Script.run("three blocks", Setup.FILE, Setup.FILL, Setup.FILL, "append(2, 1, 5) = 1", "node(1, 3) = 3");
        Script.run("a block taken out", Setup.FILE, "append(2, 1, 5) = 1", "node(1, 3) = 1", "close(-1, 1) = 0", "node(1, 3) = 0");
        Script.run("an empty directory", "takeover(0) = 1", "make(-1, 0, 0) = 1", "node(1, 3) = 0");
        Script.run("a full directory", "takeover(0) = 1", Script.times(8, "make(0, 0, @) = any"), "node(0, 3) = 8");
        Script.run("not the root in itself", "takeover(0) = 1", "node(0, 3) = 0");
        Script.run("not what is further below", INODES, "node(0, 3) = 1", "node(1, 3) = 2");
        Script.run("not what was removed", INODES, "remove(3) = 0", "node(1, 3) = 1");

        Script.sentence("4: how many units read finds one behind the other from 0 on (0 in a DIRECTORY);");
        Script.run("none", Setup.FILE, "node(1, 4) = 0", "append(2, 1, 5) = 1", "node(1, 4) = 0");
        Script.run("one", INODES, "node(2, 4) = 1", "node(3, 4) = 1");
        Script.run("24", Setup.FILE, Setup.FILL, Setup.FILL, Setup.FILL, "node(1, 4) = 24");
        Script.run("only those before a gap", Setup.FILE, Setup.FILL, "append(2, 1, 20) = 1", "pass(2) = 2", "node(1, 4) = 9", Setup.down(0, 3, 4),
            "node(1, 4) = 8");
        Script.run("none before a gap at 0", Setup.FILE, Setup.down(3, 4), Setup.FILL, Setup.up(3, 4), "append(2, 1, 20) = 1", "pass(2) = 2",
            "block(1, 1, 2) = 25", Setup.down(0, 1, 2), "read(1, 8) = 20", "node(1, 4) = 0");
        Script.run("0 in a directory", INODES, "node(0, 4) = 0", "node(1, 4) = 0");
    }

    private static void names() {
        Script.sentence("5..12: the inode with the name what - 5 in this DIRECTORY, NONE if there is none.");
        Script.run("the least and the greatest name", INODES, "node(1, 5) = 2", "node(1, 12) = 3", "node(0, 12) = 1");
        Script.run("there is none", INODES, "node(1, 6) = NONE", "node(1, 11) = NONE", "node(0, 5) = NONE");
        Script.run("in a file", INODES, "node(2, 5) = NONE", "node(2, 12) = NONE", "node(3, 5) = NONE", "node(3, 12) = NONE");
        Script.run("the name was given up", INODES, "remove(3) = 0", "node(1, 12) = NONE", "move(2, 1, 1) = 0", "node(1, 5) = NONE", "node(1, 6) = 2");
        Script.run("all names of one directory", "takeover(0) = 1", Script.times(8, "make(0, 0, @) = any"), "node(0, *) = 1 NONE NONE 8 0 1 2 3 4 5 6 7 8 NONE");
    }

    private static void none() {
        Script.sentence("NONE if no master is ACTIVE, there is no such number, for others, and for an ABSENT one but for what 0.");
        Script.run("no master at first", "node(0, *) = NONE NONE NONE NONE NONE NONE", "node(1, 0) = NONE");
        Script.run("the master went DOWN", INODES, "power(2, 0, down) = true", "node(0, *) = NONE NONE NONE NONE NONE NONE", "node(4, 0) = NONE",
            "node(2, *) = NONE NONE NONE NONE NONE");
        Script.run("too small", INODES, "node(-1, *) = NONE NONE NONE NONE NONE NONE", "node(-2147483648, 0) = NONE");
        Script.run("too large", INODES, "node(12, *) = NONE NONE NONE NONE NONE NONE", "node(2147483647, 0) = NONE");
        Script.run("a what too small", INODES, "node(0, -1) = NONE", "node(1, -1) = NONE", "node(2, -1) = NONE", "node(1, -2147483648) = NONE");
        // Name 8 of the root would be name 0 of directory 1.
        Script.run("a what too large", INODES, "node(0, 13) = NONE", "node(1, 13) = NONE", "node(2, 13) = NONE", "node(1, 2147483647) = NONE");
        Script.run("an absent one", INODES, "node(4, *) = 0 NONE NONE NONE NONE NONE NONE NONE NONE NONE NONE NONE NONE NONE");
        Script.run("a removed file", INODES, "remove(3) = 0", "node(3, *) = 0 NONE NONE NONE NONE NONE");
        Script.run("a removed directory", "takeover(0) = 1", "make(-1, 0, 7) = 1", "remove(1) = 0", "node(1, *) = 0 NONE NONE NONE NONE NONE");
    }
}
