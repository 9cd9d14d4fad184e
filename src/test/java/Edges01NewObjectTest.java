/** The edges that promise 1 names. */
public final class Edges01NewObjectTest {
    public static void main(String[] args) {
        Script.sentence("All UP, logs without records, PROMISES 0, no master ACTIVE, no replicas.");
        Script.run("the least and the greatest are UP", "power(0, 0, up) = false", "power(0, 4, up) = false", "power(1, 0, up) = false",
            "power(1, 2, up) = false", "power(2, 0, up) = false", "power(2, 1, up) = false");
        Script.run("logs without records", Script.times(3, "journal(@, -1, 0) = 0\njournal(@, 0, 0) = NONE"));
        Script.run("promises", Script.times(3, "journal(@, -1, 1) = 0"), "takeover(0) = 1");
        Script.run("no master", "status(0) = NONE", "fold() = NONE");
        Script.run("no replicas", "status(3) = 0", Script.times(5, "replica(@, 0, 0) = NONE\nreplica(@, 15, 0) = NONE"));
        secondObject();
        Script.end();
    }

    private static void secondObject() {
        QuorumFiles used = new QuorumFiles();
        used.power(0, 0, false);
        used.takeover(0);
        used.make(0, 0, 0);
        used.append(0, 1, 5);
        QuorumFiles fresh = new QuorumFiles();
        Script.due("power(0, 0, up) beside a used object", fresh.power(0, 0, true) ? 1 : 0, 0);
        Script.due("journal(0, -1, 0) beside a used object", fresh.journal(0, -1, 0), 0);
        Script.due("status(3) beside a used object", fresh.status(3), 0);
    }
}
