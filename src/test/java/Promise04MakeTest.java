public final class Promise04MakeTest {
    // Two makes and 19 pairs of make and remove: just the records that a journal may hold before it folds.
    private static final String FORTY_RECORDS = "takeover(0) = 1\nmake(-1, 0, 0) = 1\nmake(0, 0, 1) = 2\n"
        + Script.times(19, "make(-1, 1, 3) = 3\nremove(3) = 0") + "status(2) = 40\n";

    public static void main(String[] args) {
        ordinary();
        wrongInputs();
        noInodeIsLeft();
        journalsAreFull();
        lost();
        Script.end();
    }

    private static void ordinary() {
        Script.run("files and directories, and their records",
            "takeover(1) = 1", "make(3, 0, 7) = 1", "make(-1, 0, 0) = 2", "make(0, 2, 7) = 3",
            "journal(0, 0, *) = 1 0 1 7 3", "journal(1, 1, *) = 1 0 2 0 -1", "journal(2, 2, *) = 1 0 3 23 0",
            "node(1, *) = 2 7 3 0 0", "node(2, *) = 1 0 NONE 1 0", "node(3, *) = 2 23 0 0 0");
        Script.run("the least absent inode",
            "takeover(0) = 1", Script.times(4, "make(-1, 0, @) = any"), "remove(3) = 0", "remove(2) = 0",
            "make(1, 0, 5) = 2", "make(1, 0, 6) = 3", "make(1, 0, 7) = 5");
        Script.run("an inode made again has nothing of the old one",
            "takeover(0) = 1", "make(1, 0, 0) = 1", "append(1, 1, 5) = 1", "pass(2) = 2", "close(1, 1) = 0",
            "remove(1) = 0", "make(2, 0, 3) = 1", "node(1, *) = 2 3 2 0 0", "block(1, 0, 0) = NONE");
    }

    private static void wrongInputs() {
        Script.run("no master: NONE before REFUSED", "make(9, 99, 99) = NONE");
        Script.run("refused",
            "takeover(0) = 1", "make(0, 0, 0) = 1", "make(4, 0, 1) = REFUSED", "make(-2, 0, 1) = REFUSED",
            "make(0, 12, 1) = REFUSED", "make(0, -1, 1) = REFUSED", "make(0, 5, 1) = REFUSED", "make(0, 1, 1) = REFUSED",
            "make(0, 0, 8) = REFUSED", "make(0, 0, -1) = REFUSED", "make(0, 0, 0) = REFUSED", "make(-1, 0, 0) = REFUSED",
            "make(0, 2147483647, 1) = REFUSED", "make(0, 268435456, 1) = REFUSED", "status(2) = 1", "status(4) = 2");
        Script.run("refused changes no touch",
            "takeover(0) = 1", "power(1, 0, down) = true", "make(4, 0, 1) = REFUSED", "journal(0, -1, 2) = 1");
    }

    private static void noInodeIsLeft() {
        Script.run("all inodes are used",
            "takeover(0) = 1", "make(-1, 0, 0) = 1", Script.times(7, "make(0, 1, @) = any"), "make(0, 0, 1) = 9",
            "make(0, 0, 2) = 10", "make(3, 0, 3) = 11", "status(4) = 12", "make(0, 0, 4) = FULL", "make(-1, 0, 4) = FULL",
            "make(0, 0, 3) = REFUSED", "make(4, 0, 4) = REFUSED", "status(2) = 11");
    }

    private static void journalsAreFull() {
        Script.run("more than 40 records behind the base",
            FORTY_RECORDS, "make(0, 0, 2) = FULL", "make(0, 0, 0) = REFUSED", "remove(2) = REFUSED",
            "status(2) = 40", "fold() = 3", "make(0, 0, 2) = 3", "status(2) = 41", "journal(0, 40, *) = 1 0 3 2 0");
        Script.run("full comes before lost and changes nothing",
            FORTY_RECORDS, "power(1, 0, down) = true", "power(1, 2, down) = true", "make(0, 0, 2) = FULL",
            "status(0) = 0", "journal(0, -1, 2) = 1", "journal(2, -1, 2) = 1",
            "power(1, 1, down) = true", "make(0, 0, 2) = LOST", Script.times(3, "journal(@, -1, *) = 40 1 0 0"));
        Script.run("a journal with an older base fills first; down it counts no more",
            "takeover(0) = 1", "make(-1, 0, 0) = 1", Script.times(15, "make(-1, 1, 3) = 2\nremove(2) = 0"),
            "power(1, 0, down) = true", "fold() = 2", "power(1, 0, up) = true", "journal(0, -1, *) = 31 1 1 0",
            "journal(1, -1, *) = 31 1 1 31", Script.times(4, "make(-1, 1, 3) = 2\nremove(2) = 0"), "make(-1, 1, 3) = 2",
            "make(-1, 1, 4) = FULL", "power(1, 0, down) = true", "make(-1, 1, 4) = 3", "journal(0, -1, *) = 40 1 0 0",
            "power(1, 0, up) = true", "make(-1, 1, 5) = 4", "journal(0, -1, 0) = 40", "journal(2, -1, 0) = 42");
    }

    private static void lost() {
        Script.run("one journal gets the record, and no master is active any more",
            "takeover(0) = 1", "power(1, 1, down) = true", "make(0, 0, 0) = 1", "power(1, 2, down) = true",
            "make(0, 0, 1) = LOST", "status(0) = NONE", "make(0, 0, 1) = NONE", "journal(0, -1, *) = 2 1 1 0",
            "journal(0, 1, *) = 1 0 2 1 0", "journal(1, -1, *) = 0 1 0 0", "journal(2, -1, *) = 1 1 0 0");
        Script.run("a lost record comes back if its journal is up at the takeover",
            "takeover(0) = 1", "power(1, 1, down) = true", "power(1, 2, down) = true", "make(0, 0, 1) = LOST",
            "power(1, 1, up) = true", "takeover(0) = 2", "node(1, 0) = 2", "journal(1, -1, 0) = 1");
    }
}
