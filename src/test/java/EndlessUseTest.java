import java.util.Random;

/** No call may throw or fail to end, whatever its arguments, also behind the 512th call; what it answers then is free. */
public final class EndlessUseTest {
    private static final int[] EDGES = {Integer.MIN_VALUE, Integer.MIN_VALUE + 1, -2048, -9, -8, -3, -2, -1, 0, 1, 2, 3, 4, 5, 7, 8, 9, 11, 12,
        13, 15, 16, 17, 24, 31, 32, 33, 40, 95, 96, 999, 1000, 1001, 1 << 28, 1 << 29, Integer.MAX_VALUE - 1, Integer.MAX_VALUE};

    public static void main(String[] args) {
        for (int seed = 0; seed < 20; seed++) {
            edgesOnly(new Random(seed));
            logsToTheirEnd(new Random(seed));
        }
        everyPairOfEdges();
        Script.end();
    }

    private static void edgesOnly(Random random) {
        QuorumFiles files = new QuorumFiles();
        for (int n = 0; n < 20000; n++) {
            int a = EDGES[random.nextInt(EDGES.length)];
            int b = EDGES[random.nextInt(EDGES.length)];
            int c = EDGES[random.nextInt(EDGES.length)];
            any(files, random.nextInt(16), a, b, c);
        }
    }

    private static void everyPairOfEdges() {
        QuorumFiles files = new QuorumFiles();
        files.takeover(0);
        files.make(2, 0, 0);
        files.append(2, 1, 5);
        for (int a : EDGES) {
            for (int b : EDGES) {
                for (int c : EDGES) {
                    files.read(a, b);
                    files.node(a, b);
                    files.block(a, b, c);
                    files.replica(a, b, c);
                    files.journal(a, b, c);
                    files.status(a);
                }
            }
        }
    }

    private static void logsToTheirEnd(Random random) {
        QuorumFiles files = new QuorumFiles();
        for (int n = 0; n < 6000; n++) {
            files.takeover(0);
            int f = files.make(random.nextInt(4), 0, random.nextInt(8));
            int client = files.node(f, 2);
            files.append(client, f, n);
            files.power(0, random.nextInt(5), random.nextBoolean());
            files.close(-1, 1 + random.nextInt(11));
            files.remove(1 + random.nextInt(11));
            files.fold();
            any(files, random.nextInt(16), random.nextInt(16) - 2, random.nextInt(16) - 2, random.nextInt(16) - 2);
            for (int j = 0; j < 3; j++) {
                files.power(1, j, true);
                if (files.journal(j, -1, 0) > 1000) {
                    Script.due("records of journal " + j, files.journal(j, -1, 0), 1000);
                }
            }
            files.power(2, 0, true);
        }
        Script.due("records at the end of a long use", files.journal(0, -1, 0) >= 999 ? 1 : 0, 1);
    }

    private static void any(QuorumFiles files, int which, int a, int b, int c) {
        switch (which) {
            case 0 -> files.power(a, b, (c & 1) == 0);
            case 1 -> files.takeover(a & 1);
            case 2 -> files.make(a, b, c);
            case 3 -> files.append(a, b, c);
            case 4 -> files.pass(a);
            case 5 -> files.close(a, b);
            case 6 -> files.remove(a);
            case 7 -> files.move(a, b, c);
            case 8 -> files.fold();
            case 9 -> files.read(a, b);
            case 10 -> files.node(a, b);
            case 11 -> files.block(a, b, c);
            case 12 -> files.replica(a, b, c);
            case 13 -> files.journal(a, b, c);
            case 14 -> files.tend(a);
            default -> files.status(a);
        }
    }
}
