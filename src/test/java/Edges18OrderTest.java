/** The edge that promise 18 names. */
public final class Edges18OrderTest {
    public static void main(String[] args) {
        Script.sentence("pass, tend: NONE (no master ACTIVE) is tested before REFUSED.");
        Script.run("pass at first", "pass(-1) = NONE", "pass(33) = NONE", "takeover(0) = 1", "pass(-1) = REFUSED", "pass(33) = REFUSED");
        Script.run("tend at first", "tend(-2) = NONE", "tend(5) = NONE", "takeover(0) = 1", "tend(-2) = REFUSED", "tend(5) = REFUSED");
        Script.run("tend of a DOWN data node", Setup.down(0), "tend(0) = NONE", "takeover(0) = 1", "tend(0) = REFUSED", "power(2, 0, down) = true",
            "tend(0) = NONE");
        Script.run("pass after a lost call", Setup.FILE, Setup.ONLY_JOURNAL_0, "pass(33) = REFUSED", "make(0, 0, 1) = LOST", "pass(33) = NONE");
        Script.run("tend after a lost call", Setup.FILE, Setup.ONLY_JOURNAL_0, "tend(5) = REFUSED", "make(0, 0, 1) = LOST", "tend(5) = NONE");
        Script.end();
    }
}
