/** The beginnings that many runs share. */
final class Setup {
    /** Master 0 is active, and file 1 is open for client 2, without a block. */
    static final String FILE = "takeover(0) = 1\nmake(2, 0, 0) = 1\n";
    /** The last block of file 1 gets 8 units in all three replicas. */
    static final String FILL = Script.times(8, "append(2, 1, 5@) = any") + "pass(32) = 16\n";
    /** The two journals that are named go down, so that the next record is lost. */
    static final String ONLY_JOURNAL_0 = "power(1, 1, down) = true\npower(1, 2, down) = true\n";
    static final String ONLY_JOURNAL_2 = "power(1, 0, down) = true\npower(1, 1, down) = true\n";
    /** What only journal 0 has written is left out when the others take over. */
    static final String WITHOUT_JOURNAL_0 = "power(1, 1, up) = true\npower(1, 2, up) = true\npower(1, 0, down) = true\n";

    /**
     * File 1 has one block, with units 10 and 11 in all three replicas; its CLOSE, record 2, holds in epoch 3, in journals 0 and
     * 2. Journal 1, which is DOWN, has another record 2, of epoch 2: MAKE of file 2.
     */
    static final String CLOSE_HOLDS = holds(FILE + units(2) + "pass(32) = 4\n", "close(2, 1)", "make(3, 0, 7)")
        + "status(*) = 0 3 3\nnode(1, 0) = 3\nnode(2, 0) = 0\n";
    /** Journal 1 has the record of the latest epoch, so that what held is given up. */
    static final String GIVEN_UP = "power(1, 1, up) = true\ntakeover(0) = any\n";

    /** Only data node 0 is UP, so that units need not be passed. Files 2 to 8 have two blocks each, 9 has one; 24 records. */
    static final String FIFTEEN_BLOCKS = fifteenBlocks();
    /** The same with file 10, which has one block. */
    static final String SIXTEEN_BLOCKS = FIFTEEN_BLOCKS + "make(2, 0, 2) = 10\nappend(2, 10, 5) = 1\n";

    private Setup() {
    }

    private static String fifteenBlocks() {
        StringBuilder all = new StringBuilder("takeover(0) = 1\n" + down(1, 2, 3, 4) + "make(-1, 0, 0) = 1\n"
            + Script.times(7, "make(2, 1, @) = any") + "make(2, 0, 1) = 9\n");
        for (int f = 2; f <= 8; f++) {
            all.append(Script.times(9, "append(2, " + f + ", @) = any"));
        }
        return all + "append(2, 9, 5) = 1\nstatus(2) = 24\nstatus(3) = 15\n";
    }

    /** File 1 gets units 10, 11 and so on in its first replica. */
    static String units(int count) {
        return Script.times(count, "append(2, 1, 1@) = any");
    }

    /** Two records for each pair; the inode must be the least absent one. */
    static String pairs(int count, int inode) {
        return Script.times(count, "make(-1, 0, 7) = " + inode + "\nremove(" + inode + ") = 0");
    }

    /**
     * The first call is lost in journal 0, the second one, in the next epoch, in journal 1, which has not heard of the first. Then
     * journal 1 is DOWN, and the first call's record holds.
     */
    static String holds(String before, String first, String second) {
        return before + ONLY_JOURNAL_0 + first + " = LOST\n" + WITHOUT_JOURNAL_0 + "takeover(0) = any\npower(1, 2, down) = true\n" + second
            + " = LOST\npower(1, 2, up) = true\npower(1, 0, up) = true\npower(1, 1, down) = true\ntakeover(0) = any\n";
    }

    /** These data nodes go down. */
    static String down(int... dataNodes) {
        return each(dataNodes, "power(0, @, down) = true\n");
    }

    /** These data nodes go up. */
    static String up(int... dataNodes) {
        return each(dataNodes, "power(0, @, up) = true\n");
    }

    private static String each(int[] numbers, String line) {
        StringBuilder all = new StringBuilder();
        for (int n : numbers) {
            all.append(line.replace("@", String.valueOf(n)));
        }
        return all.toString();
    }
}
