public final class Promise02PowerTest {
    public static void main(String[] args) {
        everyMachineSwitches(0, 5);
        everyMachineSwitches(1, 3);
        everyMachineSwitches(2, 2);
        Script.run("there is none",
            "power(0, 5, down) = false", "power(0, -1, down) = false",
            "power(1, 3, down) = false", "power(1, -1, down) = false",
            "power(2, 2, down) = false", "power(2, -1, down) = false",
            "power(3, 0, down) = false", "power(-1, 0, down) = false",
            "power(0, 2147483647, down) = false", "power(1, -2147483648, down) = false");
        Script.run("an active master that goes down is active no more",
            "takeover(1) = 1", "power(2, 1, down) = true", "status(*) = NONE 1 NONE 0 NONE",
            "power(2, 1, up) = true", "status(0) = NONE");
        Script.run("another master that goes down changes nothing for the active one",
            "takeover(1) = 1", "power(2, 0, down) = true", "status(0) = 1", "power(2, 1, up) = false", "status(0) = 1");
        Script.run("other sorts with the active master's number leave it alone",
            "takeover(1) = 1", "power(0, 1, down) = true", "power(1, 1, down) = true", "status(0) = 1");
        Script.run("a journal stays in touch until a record is written without it",
            "takeover(0) = 1", "power(1, 0, down) = true", "journal(0, -1, 2) = 1",
            "power(1, 0, up) = true", "make(0, 0, 0) = 1", "journal(0, -1, *) = 1 1 1 0",
            "power(1, 0, down) = true", "make(0, 0, 1) = 2", "journal(0, -1, *) = 1 1 0 0",
            "power(1, 0, up) = true", "make(0, 0, 2) = 3", "journal(0, -1, *) = 1 1 0 0", "journal(1, -1, 0) = 3");
        Script.run("a data node keeps its replicas while it is down",
            "takeover(0) = 1", "make(0, 0, 0) = 1", "append(0, 1, 9) = 1", "power(0, 0, down) = true",
            "replica(0, 0, *) = 2049 1", "status(3) = 3", "power(0, 0, up) = true", "replica(0, 0, *) = 2049 1");
        Script.end();
    }

    private static void everyMachineSwitches(int sort, int count) {
        for (int n = 0; n < count; n++) {
            String of = "power(" + sort + ", " + n + ", ";
            Script.run("power of sort " + sort, of + "up) = false", of + "down) = true", of + "down) = false",
                of + "up) = true", of + "up) = false");
        }
    }
}
