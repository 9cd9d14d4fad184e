public final class Promise15JournalTest {
    private static final String RECORDS = "takeover(0) = 1\nmake(-1, 0, 3) = 1\nmake(2, 1, 4) = 2\nappend(2, 2, 9) = 1\n"
        + "close(-1, 2) = 0\nmove(2, 0, 7) = 0\nremove(1) = 0\n";

    public static void main(String[] args) {
        Script.run("every kind of record",
            RECORDS, Script.times(3, "journal(@, -1, *) = 7 1 1 0 NONE\njournal(@, 0, *) = 1 0 1 3 -1 NONE\n"
                + "journal(@, 1, *) = 1 0 2 12 2\njournal(@, 2, *) = 1 1 2 0 0\njournal(@, 3, *) = 1 2 0 0 0\n"
                + "journal(@, 4, *) = 1 3 2 0 0\njournal(@, 5, *) = 1 5 2 7 0\njournal(@, 6, *) = 1 4 1 0 0\n"
                + "journal(@, 7, *) = NONE NONE NONE NONE NONE"));
        Script.run("there is none, and other questions",
            RECORDS, "journal(3, -1, 0) = NONE", "journal(-1, -1, 0) = NONE", "journal(3, 0, 0) = NONE", "journal(-1, 5, 0) = NONE",
            "journal(0, -2, 0) = NONE", "journal(1, -2, 0) = NONE", "journal(0, -1, 4) = NONE", "journal(0, -1, -1) = NONE",
            "journal(0, 0, 5) = NONE", "journal(0, 0, -1) = NONE", "journal(0, 7, 0) = NONE", "journal(0, 1000, 0) = NONE",
            "journal(0, 2147483647, 0) = NONE", "journal(0, -2147483648, 0) = NONE", "journal(2147483647, 0, 0) = NONE");
        Script.run("folded ones, and those behind",
            RECORDS, "fold() = 3", "make(1, 0, 0) = 1", "journal(0, -1, *) = 8 1 1 7", "journal(0, 0, *) = NONE NONE NONE NONE NONE",
            "journal(0, 6, *) = NONE NONE NONE NONE NONE", "journal(0, 7, *) = 1 0 1 0 1", "journal(0, 8, 0) = NONE");
        Script.run("one that is down, and without a master",
            RECORDS, "power(1, 1, down) = true", "make(1, 0, 0) = 1", "power(2, 0, down) = true", "journal(1, -1, *) = 7 1 0 0",
            "journal(1, 6, *) = 1 4 1 0 0", "journal(1, 7, 0) = NONE", "journal(0, 7, *) = 1 0 1 0 1", "journal(0, -1, 2) = 1");
        Script.run("what a takeover cuts off can't be shown",
            "takeover(0) = 1", "power(1, 1, down) = true", "power(1, 2, down) = true", "make(0, 0, 0) = LOST", "power(1, 1, up) = true",
            "power(1, 2, up) = true", "power(1, 0, down) = true", "takeover(0) = 2", "make(-1, 0, 5) = 1", "power(1, 0, up) = true",
            "journal(0, 0, *) = 1 0 1 0 0", "takeover(0) = 3", "journal(0, 0, *) = 2 0 1 5 -1", "journal(0, -1, *) = 1 3 1 0",
            "journal(0, 1, 0) = NONE");
        Script.run("records tell their own epochs",
            "takeover(0) = 1", "make(0, 0, 0) = 1", "takeover(1) = 2", "takeover(1) = 3", "make(0, 0, 1) = 2", "journal(2, 0, 0) = 1",
            "journal(2, 1, 0) = 3", "journal(2, -1, 1) = 3");
        Script.end();
    }
}
