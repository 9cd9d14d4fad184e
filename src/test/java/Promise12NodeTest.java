public final class Promise12NodeTest {
    public static void main(String[] args) {
        Script.run("no master", "node(0, *) = NONE NONE NONE NONE NONE NONE");
        Script.run("the root",
            "takeover(0) = 1", "node(0, *) = 1 NONE NONE 0 0 NONE NONE NONE NONE NONE NONE NONE NONE NONE",
            "make(-1, 0, 7) = 1", "make(0, 0, 0) = 2", "node(0, *) = 1 NONE NONE 2 0 2 NONE NONE NONE NONE NONE NONE 1 NONE");
        Script.run("no such number and other questions",
            "takeover(0) = 1", "make(-1, 0, 7) = 1", "node(-1, 0) = NONE", "node(12, 0) = NONE", "node(2147483647, 0) = NONE",
            "node(1, -1) = NONE", "node(1, 13) = NONE", "node(1, 2147483647) = NONE", "node(1, -2147483648) = NONE",
            "node(0, 13) = NONE", "node(0, -1) = NONE");
        Script.run("an absent one",
            "takeover(0) = 1", "node(11, *) = 0 NONE NONE NONE NONE NONE NONE", "make(3, 0, 1) = 1", "close(3, 1) = 0", "remove(1) = 0",
            "node(1, *) = 0 NONE NONE NONE NONE NONE NONE");
        Script.run("a directory in a directory",
            "takeover(0) = 1", "make(-1, 0, 2) = 1", "make(-1, 1, 0) = 2", "make(1, 1, 3) = 3",
            "node(1, *) = 1 2 NONE 2 0 2 NONE NONE 3 NONE NONE NONE NONE NONE", "node(2, *) = 1 8 NONE 0 0 NONE", "node(0, 3) = 1");
        Script.run("names are 0 to 7: no place of another directory is told",
            "takeover(0) = 1", "make(-1, 0, 2) = 1", "make(-1, 1, 0) = 2", "make(-1, 1, 3) = 3", "node(0, 13) = NONE", "node(0, 16) = NONE",
            "node(1, -1) = NONE", "node(2, -1) = NONE", "node(2, 0) = 1", "make(0, 0, 0) = 4", "node(4, -27) = NONE", "node(4, -25) = NONE");
        Script.run("a file, open and closed",
            "takeover(0) = 1", "make(-1, 0, 2) = 1", "make(3, 1, 6) = 2", "node(2, *) = 2 14 3 0 0 NONE NONE", "append(3, 2, 5) = 1",
            "append(3, 2, 6) = 2", "node(2, *) = 2 14 3 1 0", "pass(3) = 3", "node(2, 4) = 1", "pass(1) = 1", "node(2, 4) = 2",
            "close(3, 2) = 0", "node(2, *) = 3 14 NONE 1 2 NONE NONE NONE NONE NONE NONE NONE NONE NONE");
        Script.run("units one behind the other from 0 on",
            "takeover(0) = 1", "make(2, 0, 0) = 1", Script.times(8, "append(2, 1, 1@) = any"), "pass(32) = 16",
            Script.times(8, "append(2, 1, 2@) = any"), "pass(32) = 16", Script.times(8, "append(2, 1, 3@) = any"), "pass(15) = 15",
            "node(1, 3) = 3", "node(1, 4) = 23", "pass(1) = 1", "node(1, 4) = 24",
            "power(0, 0, down) = true", "power(0, 3, down) = true", "power(0, 4, down) = true", "read(1, 16) = 30", "node(1, 4) = 8",
            "power(0, 4, up) = true", "node(1, 4) = 24", "power(0, 1, down) = true", "power(0, 2, down) = true", "read(1, 8) = 20",
            "node(1, 4) = 0");
        Script.end();
    }
}
