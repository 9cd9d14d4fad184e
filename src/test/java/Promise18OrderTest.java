public final class Promise18OrderTest {
    private static final String WRONG = "pass(33) = %1$s\npass(-1) = %1$s\ntend(5) = %1$s\ntend(-2) = %1$s\n";
    private static final String WRONG_WRITES = "make(4, 0, 0) = %1$s\nappend(0, 12, 0) = %1$s\nclose(0, -1) = %1$s\nremove(0) = %1$s\n"
        + "move(0, 0, 0) = %1$s\n";

    public static void main(String[] args) {
        String none = String.format(WRONG + WRONG_WRITES, "NONE");
        String refused = String.format(WRONG + WRONG_WRITES, "REFUSED");
        Script.run("NONE is tested before REFUSED", none, "power(0, 0, down) = true", "tend(0) = NONE", "takeover(0) = 1", refused,
            "tend(0) = REFUSED", "power(2, 0, down) = true", none, "tend(0) = NONE");
        String forty = "takeover(0) = 1\nmake(0, 0, 0) = 1\nmake(0, 0, 1) = 2\n" + Script.times(19, "make(-1, 0, 7) = 3\nremove(3) = 0");
        Script.run("REFUSED before FULL, FULL before LOST", forty, refused, "power(1, 0, down) = true", "power(1, 1, down) = true", refused,
            "make(0, 0, 2) = FULL", "append(0, 1, 1) = FULL", "close(0, 1) = FULL", "move(1, 0, 2) = FULL", "status(0) = 0",
            "append(1, 1, 1) = REFUSED", "fold() = 1", "append(0, 1, 1) = LOST", "append(0, 1, 1) = NONE");
        Script.end();
    }
}
