public final class Promise17StatusTest {
    public static void main(String[] args) {
        Script.run("at first", "status(*) = NONE 0 NONE 0 NONE NONE", "status(-1) = NONE", "status(2147483647) = NONE");
        Script.run("while a master is active",
            "takeover(1) = 1", "status(*) = 1 1 0 0 1 NONE", "make(2, 0, 0) = 1", "append(2, 1, 5) = 1", "status(*) = 1 1 2 3 2 NONE",
            "status(-1) = NONE", "status(-2147483648) = NONE", "takeover(0) = 2", "status(*) = 0 2 2 3 2 NONE", "fold() = 3", "status(2) = 2",
            "power(0, 0, down) = true", "status(3) = 3", "close(2, 1) = 0", "status(*) = 0 2 4 3 2", "remove(1) = 0",
            "status(*) = 0 2 5 3 1");
        Script.run("when it is lost",
            "takeover(1) = 1", "make(2, 0, 0) = 1", "append(2, 1, 5) = 1", "power(2, 1, down) = true", "status(*) = NONE 1 NONE 3 NONE NONE",
            "takeover(0) = 2", "status(*) = 0 2 2 3 2", "power(1, 0, down) = true", "power(1, 1, down) = true", "status(0) = 0",
            "make(0, 0, 5) = LOST", "status(*) = NONE 2 NONE 3 NONE", "takeover(0) = REFUSED", "status(1) = 2");
        Script.run("the log of those in touch, whichever is down",
            "takeover(0) = 1", "make(2, 0, 0) = 1", "power(1, 0, down) = true", "make(2, 0, 1) = 2", "status(2) = 2",
            "power(1, 0, up) = true", "status(2) = 2", "power(1, 1, down) = true", "power(1, 2, down) = true", "status(2) = 2");
        Script.end();
    }
}
