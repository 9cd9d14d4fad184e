public final class Promise03TakeoverTest {
    public static void main(String[] args) {
        Script.run("there is no such master",
            "takeover(2) = REFUSED", "takeover(-1) = REFUSED", "takeover(2147483647) = REFUSED", "status(1) = 0");
        Script.run("epochs go up, also for the active one",
            "takeover(0) = 1", "takeover(0) = 2", "takeover(1) = 3", "status(*) = 1 3 0 0 1",
            Script.times(3, "journal(@, -1, *) = 0 3 1 0"));
        Script.run("a master that is down can't",
            "takeover(0) = 1", "power(2, 1, down) = true", "takeover(1) = REFUSED", "status(*) = 0 1 0",
            Script.times(3, "journal(@, -1, 1) = 1"));
        Script.run("two journals must be up",
            "power(1, 2, down) = true", "takeover(0) = 1", "journal(2, -1, *) = 0 0 0 0", "journal(1, -1, *) = 0 1 1 0",
            "power(1, 0, down) = true", "takeover(1) = REFUSED", "status(0) = 0", "journal(1, -1, 1) = 1",
            "power(1, 1, down) = true", "takeover(1) = REFUSED", "power(1, 2, up) = true", "takeover(1) = REFUSED",
            "power(1, 0, up) = true", "takeover(1) = 2", "journal(0, -1, *) = 0 2 1 0", "journal(1, -1, *) = 0 1 0 0",
            "journal(2, -1, *) = 0 2 1 0");
        Script.run("the longer log of the same epoch is taken",
            "takeover(0) = 1", "make(0, 0, 0) = 1", "power(1, 2, down) = true", "make(1, 0, 1) = 2",
            "power(1, 2, up) = true", "power(1, 0, down) = true", "takeover(0) = 2",
            "journal(2, -1, *) = 2 2 1 0", "journal(2, 1, *) = 1 0 2 1 1", "journal(0, -1, *) = 2 1 0 0", "status(4) = 3");
        Script.run("a later epoch wins over a longer log",
            "takeover(0) = 1", "make(0, 0, 0) = 1", "power(1, 1, down) = true", "power(1, 2, down) = true",
            "make(0, 0, 1) = LOST", "journal(0, -1, 0) = 2", "power(1, 1, up) = true", "power(1, 2, up) = true",
            "power(1, 0, down) = true", "takeover(1) = 2", "make(2, 0, 5) = 2", "remove(2) = REFUSED",
            "power(1, 0, up) = true", "takeover(0) = 3",
            "journal(0, -1, *) = 2 3 1 0", "journal(0, 1, *) = 2 0 2 5 2", "node(2, *) = 2 5 2");
        Script.run("records of every kind go over, and the inodes are what they say",
            "power(1, 2, down) = true", "takeover(0) = 1", "make(-1, 0, 3) = 1", "make(2, 1, 4) = 2", "append(2, 2, 9) = 1", "pass(2) = 2",
            "close(-1, 2) = 0", "move(2, 0, 7) = 0", "remove(1) = 0", "power(1, 2, up) = true", "power(1, 0, down) = true",
            "takeover(1) = 2", "journal(2, -1, *) = 7 2 1 0", "journal(2, 0, *) = 1 0 1 3 -1", "journal(2, 1, *) = 1 0 2 12 2",
            "journal(2, 2, *) = 1 1 2 0 0", "journal(2, 3, *) = 1 2 0 0 0", "journal(2, 4, *) = 1 3 2 1 0",
            "journal(2, 5, *) = 1 5 2 7 0", "journal(2, 6, *) = 1 4 1 0 0", "node(2, *) = 3 7 NONE 1 1", "node(1, 0) = 0",
            "block(2, 0, *) = 0 2051 7 1 0", "takeover(0) = 3", "status(2) = 7", "block(2, 0, *) = 0 2051 7 1 0", "node(2, *) = 3 7 NONE 1 1");
        Script.end();
    }
}
