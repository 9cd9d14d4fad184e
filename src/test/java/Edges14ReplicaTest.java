/** The edges that promise 14 names, sentence by sentence. */
public final class Edges14ReplicaTest {
    private static final String ONE_BLOCK = Setup.FILE + "append(2, 1, 5) = 1\n";

    public static void main(String[] args) {
        Script.sentence("Of the replica of block b that a data node (UP or DOWN) has what 0: its stamp; 1: how many units.");
        Script.run("on a data node that is UP", ONE_BLOCK, "replica(0, 0, *) = 2049 1");
        Script.run("on a data node that is DOWN", ONE_BLOCK, Setup.down(0), "replica(0, 0, *) = 2049 1");
        Script.run("without a master", ONE_BLOCK, "power(2, 0, down) = true", "replica(0, 0, *) = 2049 1");
        Script.run("left behind", ONE_BLOCK, Setup.down(0), "append(2, 1, 6) = 1", Setup.up(0), "replica(0, 0, *) = 2049 1", "replica(1, 0, *) = 2050 1");
        Script.run("of a block in no row", ONE_BLOCK, "close(-1, 1) = 0", "node(1, 3) = 0", "replica(0, 0, *) = 2050 0");
        Script.run("no units", ONE_BLOCK, "replica(2, 0, *) = 2049 0");
        Script.run("8 units", Setup.FILE, Setup.units(8), "replica(0, 0, *) = 2049 8");
        Script.run("on the greatest data node", Setup.FILE, Setup.down(0, 1, 2, 3), "append(2, 1, 5) = 1", "replica(4, 0, *) = 2049 1");
        Script.run("of the greatest block", Setup.SIXTEEN_BLOCKS, "replica(0, 15, 1) = 1", "replica(0, 14, 1) = 1");

        Script.sentence("NONE if there is none, or for others.");
        Script.run("there is none on this data node", ONE_BLOCK, "replica(3, 0, *) = NONE NONE", "replica(4, 0, *) = NONE NONE");
        Script.run("there is none of this block", ONE_BLOCK, "replica(0, 1, *) = NONE NONE", "replica(0, 15, *) = NONE NONE");
        Script.run("it was dropped", ONE_BLOCK, "close(-1, 1) = 0", "tend(0) = 1", "replica(0, 0, *) = NONE NONE", "replica(1, 0, *) = 2050 0");
        Script.run("a data node too small", ONE_BLOCK, "replica(-1, 0, *) = NONE NONE", "replica(-1, 16, 0) = NONE", "replica(-2147483648, 0, 0) = NONE");
        Script.run("a data node too large", ONE_BLOCK, "replica(5, 0, *) = NONE NONE", "replica(2147483647, 0, 0) = NONE");
        Script.run("a block too small", ONE_BLOCK, "replica(0, -1, *) = NONE NONE", "replica(1, -16, *) = NONE NONE", "replica(0, -2147483648, 0) = NONE");
        Script.run("a block too large", ONE_BLOCK, "replica(0, 16, *) = NONE NONE", "replica(4, 16, *) = NONE NONE", "replica(0, 2147483647, 0) = NONE");
        Script.run("a what too small", ONE_BLOCK, "replica(0, 0, -1) = NONE", "replica(0, 0, -2147483648) = NONE");
        Script.run("a what too large", ONE_BLOCK, "replica(0, 0, 2) = NONE", "replica(0, 0, 2147483647) = NONE");
        Script.end();
    }
}
