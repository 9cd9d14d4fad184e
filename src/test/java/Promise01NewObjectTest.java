public final class Promise01NewObjectTest {
    public static void main(String[] args) {
        Script.run("everything is up",
            Script.times(5, "power(0, @, up) = false"),
            Script.times(3, "power(1, @, up) = false"),
            Script.times(2, "power(2, @, up) = false"));
        Script.run("logs, promises and bases",
            Script.times(3, "journal(@, -1, *) = 0 0 0 0 NONE\njournal(@, 0, *) = NONE NONE NONE NONE NONE"));
        Script.run("no master is active", "status(*) = NONE 0 NONE 0 NONE NONE", "node(0, 0) = NONE");
        for (int b = 0; b < 16; b++) {
            Script.run("no replicas", Script.times(5, "replica(@, " + b + ", *) = NONE NONE"));
        }
        Script.run("the root is there at once", "takeover(0) = 1", "status(4) = 1", "node(0, *) = 1 NONE NONE 0 0");
        objectsAreApart();
        Script.end();
    }

    private static void objectsAreApart() {
        QuorumFiles one = new QuorumFiles();
        QuorumFiles other = new QuorumFiles();
        one.takeover(0);
        one.make(0, 0, 0);
        Script.due("status(0) of another object", other.status(0), QuorumFiles.NONE);
        Script.due("journal(0, -1, 0) of another object", other.journal(0, -1, 0), 0);
    }
}
