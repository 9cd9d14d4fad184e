public final class Promise08RemoveTest {
    public static void main(String[] args) {
        Script.run("no master", "remove(0) = NONE", "remove(99) = NONE");
        Script.run("refused",
            "takeover(0) = 1", "make(-1, 0, 0) = 1", "make(2, 1, 0) = 2", "remove(0) = REFUSED", "remove(1) = REFUSED",
            "remove(2) = REFUSED", "remove(3) = REFUSED", "remove(-1) = REFUSED", "remove(12) = REFUSED", "status(2) = 2",
            "status(4) = 3");
        Script.run("the empty root", "takeover(0) = 1", "remove(0) = REFUSED", "status(4) = 1");
        Script.run("a closed file, then its directory",
            "takeover(0) = 1", "make(-1, 0, 0) = 1", "make(2, 1, 5) = 2", "close(2, 2) = 0", "remove(1) = REFUSED",
            "remove(2) = 0", "journal(0, 3, *) = 1 4 2 0 0", "node(2, *) = 0 NONE NONE NONE NONE", "node(1, 3) = 0",
            "node(1, 10) = NONE", "remove(2) = REFUSED", "remove(1) = 0", "journal(1, 4, *) = 1 4 1 0 0", "status(4) = 1",
            "node(0, 5) = NONE", "make(0, 0, 0) = 1");
        Script.run("replicas stay, the blocks are free",
            "takeover(0) = 1", "make(2, 0, 5) = 1", "append(2, 1, 9) = 1", "pass(2) = 2", "close(2, 1) = 0", "remove(1) = 0",
            "status(3) = 3", "replica(0, 0, *) = 2049 1", "read(1, 0) = NOUNIT", "block(1, 0, 0) = NONE",
            "make(2, 0, 5) = 1", "append(2, 1, 8) = 1", "block(1, 0, 0) = 0");
        String forty = "takeover(0) = 1\nmake(-1, 0, 0) = 1\nmake(-1, 0, 1) = 2\n" + Script.times(19, "make(-1, 0, 7) = 3\nremove(3) = 0");
        Script.run("full", forty, "status(2) = 40", "remove(1) = FULL", "remove(0) = REFUSED", "node(1, 0) = 1", "fold() = 3",
            "remove(1) = 0");
        Script.run("lost", "takeover(0) = 1", "make(-1, 0, 0) = 1", "power(1, 0, down) = true", "power(1, 1, down) = true",
            "remove(1) = LOST", "journal(2, 1, *) = 1 4 1 0 0", "status(0) = NONE", "remove(1) = NONE");
        Script.end();
    }
}
