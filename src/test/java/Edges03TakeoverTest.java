/** The edges that promise 3 names, sentence by sentence. */
public final class Edges03TakeoverTest {
    public static void main(String[] args) {
        Script.sentence("Master m TAKES OVER (also if it is ACTIVE): the epoch;");
        Script.run("the least and the greatest master", "takeover(0) = 1", "status(0) = 0", "takeover(1) = 2", "status(0) = 1");
        Script.run("it is active", "takeover(1) = 1", "takeover(1) = 2", "status(*) = 1 2");
        Script.run("active, it comes in touch with journals that are UP again", "takeover(1) = 1", "power(1, 0, down) = true", "make(0, 0, 0) = 1",
            "power(1, 0, up) = true", "takeover(1) = 2", "journal(0, -1, *) = 1 2 1 0");

        Script.sentence("REFUSED if it can't, or there is none.");
        Script.run("too small", "takeover(-1) = REFUSED", "takeover(-2147483648) = REFUSED", "status(*) = NONE 0");
        Script.run("too large", "takeover(2) = REFUSED", "takeover(2147483647) = REFUSED", "status(*) = NONE 0");
        Script.run("the master is DOWN", "power(2, 1, down) = true", "takeover(1) = REFUSED", "status(*) = NONE 0");
        Script.run("too few journals", Setup.ONLY_JOURNAL_0, "takeover(0) = REFUSED", "status(*) = NONE 0", "journal(0, -1, *) = 0 0 0 0");
        Script.run("a refusal leaves the active one, the promises and the touch", "takeover(1) = 1", Setup.ONLY_JOURNAL_0, "takeover(0) = REFUSED",
            "takeover(1) = REFUSED", "takeover(2) = REFUSED", "status(*) = 1 1 0", Script.times(3, "journal(@, -1, *) = 0 1 1 0"));
        Script.end();
    }
}
