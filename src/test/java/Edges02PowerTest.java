/** The edges that promise 2 names, sentence by sentence. */
public final class Edges02PowerTest {
    private static final int[] COUNTS = {5, 3, 2};

    public static void main(String[] args) {
        Script.sentence("Data node (sort 0), journal (1) or master (2) n goes UP or DOWN");
        Script.run("a data node, not what else has its number", "power(0, 1, down) = true", "power(1, 1, up) = false", "power(2, 1, up) = false",
            "power(0, 0, up) = false", "power(0, 2, up) = false");
        Script.run("a journal", "power(1, 1, down) = true", "power(0, 1, up) = false", "power(2, 1, up) = false", "power(1, 0, up) = false",
            "power(1, 2, up) = false");
        Script.run("a master", "power(2, 1, down) = true", "power(0, 1, up) = false", "power(1, 1, up) = false", "power(2, 0, up) = false");

        Script.sentence("(an ACTIVE master that goes DOWN is not ACTIVE any more): true;");
        for (int m = 0; m < 2; m++) {
            String other = String.valueOf(1 - m);
            Script.run("the active one", "takeover(" + m + ") = 1", "power(2, " + m + ", down) = true", "status(0) = NONE", "make(0, 0, 0) = NONE");
            Script.run("the active one is UP again", "takeover(" + m + ") = 1", "power(2, " + m + ", down) = true", "power(2, " + m + ", up) = true",
                "status(0) = NONE");
            Script.run("the other one", "takeover(" + m + ") = 1", "power(2, " + other + ", down) = true", "status(0) = " + m,
                "power(2, " + other + ", up) = true", "status(0) = " + m);
            Script.run("the active one is UP already", "takeover(" + m + ") = 1", "power(2, " + m + ", up) = false", "status(0) = " + m);
        }

        Script.sentence("false if there is none,");
        for (int sort = 0; sort < 3; sort++) {
            String of = "power(" + sort + ", ";
            Script.run("too small", of + "-1, down) = false", of + "-2147483648, down) = false", of + "-1, up) = false");
            Script.run("too large", of + COUNTS[sort] + ", down) = false", of + "2147483647, down) = false", of + COUNTS[sort] + ", up) = false");
        }
        Script.run("a sort too small", "power(-1, 0, down) = false", "power(-2147483648, 0, down) = false", "power(-1, 0, up) = false");
        Script.run("a sort too large", "power(3, 0, down) = false", "power(2147483647, 0, down) = false", "power(3, 0, up) = false");

        Script.sentence("or it is so already.");
        for (int sort = 0; sort < 3; sort++) {
            int greatest = COUNTS[sort] - 1;
            String last = "power(" + sort + ", " + greatest + ", ";
            Script.run("UP already", last + "up) = false");
            Script.run("DOWN already", last + "down) = true", last + "down) = false");
            Script.run("UP again", last + "down) = true", last + "up) = true", last + "up) = false");
        }
        Script.end();
    }
}
