import java.util.ArrayDeque;
import java.util.ArrayList;
import java.util.Deque;
import java.util.List;
import java.util.Map;
import java.util.Random;
import java.util.TreeMap;

/**
 * Many runs of drawn calls, always the same ones: the program must answer as the model does. With two arguments, a first
 * run and a number of runs, it plays these instead, and prints how often each call was answered how.
 */
public final class ModelTest {
    private static final int RUNS = 500;
    private static final int CALLS = 420;

    // How often a run draws each call; the runs differ in how much they switch off.
    // "strand" stands for a row of calls that ends in a takeover which gives a record up that held before.
    private static final String[] NAMES =
        {"power", "takeover", "make", "append", "pass", "close", "remove", "move", "fold", "tend", "strand"};
    private static final int[][] WEIGHTS = {
        {4, 1, 6, 60, 14, 3, 2, 2, 3, 4, 0},
        {12, 4, 8, 40, 12, 5, 4, 3, 4, 8, 0},
        {30, 10, 10, 30, 10, 6, 4, 4, 3, 6, 0},
        {2, 1, 30, 8, 3, 10, 12, 14, 2, 2, 0},
        {1, 0, 10, 90, 40, 1, 1, 1, 6, 1, 0},
        {9, 3, 12, 30, 12, 9, 8, 2, 0, 9, 0},
        {6, 0, 4, 30, 10, 2, 1, 1, 2, 6, 4}};
    private static final String[] WRITERS = {"make", "append", "close", "close", "remove", "move"};

    /** A call to come; its arguments are drawn when it comes if there are none here. */
    private record Planned(String name, int[] arguments) {
    }

    private final Random random;
    private final QuorumFiles files = new QuorumFiles();
    private final Model model = new Model();
    private final List<String> told = new ArrayList<>();
    private final Deque<Planned> planned = new ArrayDeque<>();

    private ModelTest(long seed) {
        random = new Random(seed);
    }

    public static void main(String[] args) {
        Map<String, Integer> kinds = new TreeMap<>();
        int first = args.length == 2 ? Integer.parseInt(args[0]) : 0;
        int runs = args.length == 2 ? Integer.parseInt(args[1]) : RUNS;
        for (int run = first; run < first + runs; run++) {
            String wrong = new ModelTest(run).play(WEIGHTS[run % WEIGHTS.length], kinds);
            if (wrong != null) {
                System.out.println("run " + run + ":\n" + wrong);
                System.exit(1);
            }
        }
        if (args.length == 2) {
            System.out.println(kinds);
        }
    }

    private String play(int[] weights, Map<String, Integer> kinds) {
        for (int n = 0; n < CALLS; n++) {
            Planned next = next(n, weights);
            String name = next.name();
            int[] a = next.arguments() == null ? arguments(name) : next.arguments();
            String call = name + "(" + a[0] + ", " + a[1] + ", " + a[2] + ")";
            long got = ofFiles(name, a);
            long want = ofModel(name, a);
            told.add(call + " = " + want);
            kinds.merge(name + " " + (want < 0 ? want : "good"), 1, Integer::sum);
            String wrong = got != want ? call + " answered " + got + ", due is " + want : n % 10 == 9 ? compareAll() : null;
            if (wrong != null) {
                return String.join("\n", told) + "\n" + wrong;
            }
        }
        return compareAll();
    }

    private Planned next(int n, int[] weights) {
        if (planned.isEmpty()) {
            String name = n == 0 || wantsMaster() ? "takeover" : draw(weights);
            if (!name.equals("strand")) {
                return new Planned(name, null);
            }
            strand();
        }
        return planned.remove();
    }

    // Journal a gets a record alone, then b another one, perhaps twice; what a has holds for a while, and is given up for what b has.
    private void strand() {
        int a = random.nextInt(3);
        int b = (a + 1 + random.nextInt(2)) % 3;
        int c = 3 - a - b;
        planMasters();
        for (int rounds = 1 + random.nextInt(2); rounds > 0; rounds--) {
            planJournals(1 << a);
            planWriter();
            planJournals(1 << b | 1 << c);
            planTakeover();
            planJournals(1 << b);
            planWriter();
            planJournals(1 << a | 1 << c);
            planTakeover();
        }
        for (int n = random.nextInt(8); n > 0; n--) {
            planIdle();
        }
        planJournals(random.nextInt(3) == 0 ? 1 << b | 1 << c : 7);
        planTakeover();
    }

    private void planMasters() {
        planned.add(new Planned("power", new int[] {2, 0, 1}));
        planned.add(new Planned("power", new int[] {2, 1, 1}));
    }

    private void planJournals(int up) {
        for (int j = 0; j < 3; j++) {
            planned.add(new Planned("power", new int[] {1, j, up >> j & 1}));
        }
    }

    private void planWriter() {
        planned.add(new Planned(WRITERS[random.nextInt(WRITERS.length)], null));
    }

    private void planTakeover() {
        planned.add(new Planned("takeover", new int[] {random.nextInt(2), 0, 0}));
    }

    // Nothing here writes a record.
    private void planIdle() {
        switch (random.nextInt(5)) {
            case 0: planned.add(new Planned("pass", null)); break;
            case 1: planned.add(new Planned("fold", null)); break;
            case 2: planned.add(new Planned("tend", new int[] {-1, 0, 0})); break;
            case 3: planned.add(new Planned("tend", null)); break;
            default: planned.add(new Planned("power", new int[] {0, random.nextInt(5), random.nextInt(2)})); break;
        }
    }

    // Without a master next to nothing happens, so a run comes back to one soon.
    private boolean wantsMaster() {
        return model.status(0) == Model.NONE && random.nextInt(4) == 0;
    }

    private String draw(int[] weights) {
        int sum = 0;
        for (int w : weights) {
            sum += w;
        }
        int at = random.nextInt(sum);
        int i = 0;
        while (at >= weights[i]) {
            at -= weights[i];
            i++;
        }
        return NAMES[i];
    }

    private int between(int low, int high) {
        return random.nextInt(40) == 0 ? wild() : low + random.nextInt(high - low + 1);
    }

    private int wild() {
        int[] values = {-2, -1, 0, 1, 3, 5, 8, 12, 16, 33, Integer.MAX_VALUE, Integer.MIN_VALUE, 1 << 28, random.nextInt()};
        return values[random.nextInt(values.length)];
    }

    private int[] arguments(String name) {
        switch (name) {
            case "power": return powerArguments();
            case "takeover": return new int[] {between(0, 1), 0, 0};
            case "make": return new int[] {between(-1, 3), directory(), between(0, 7)};
            case "append": return fileArguments(false);
            case "pass": return new int[] {random.nextInt(3) == 0 ? between(0, 32) : 32, 0, 0};
            case "close": return fileArguments(true);
            case "remove": return new int[] {between(0, 11), 0, 0};
            case "move": return new int[] {between(0, 11), directory(), between(0, 7)};
            case "tend": return new int[] {between(-1, 4), 0, 0};
            default: return new int[3];
        }
    }

    // Most machines are up most of the time, or nothing would ever be written.
    private int[] powerArguments() {
        int sort = between(0, 2);
        int count = sort == 0 ? 5 : sort == 1 ? 3 : 2;
        return new int[] {sort, between(0, count - 1), random.nextInt(5) < (sort == 0 ? 3 : 4) ? 1 : 0};
    }

    private int directory() {
        int i = between(0, 11);
        return random.nextInt(4) == 0 || model.node(i, 0) == 1 ? i : 0;
    }

    private int[] fileArguments(boolean closing) {
        int f = between(1, 11);
        for (int tries = 0; tries < 8 && model.node(f, 0) != 2 && random.nextInt(12) > 0; tries++) {
            f = closing ? between(1, 11) : between(1, 5);
        }
        int client = model.node(f, 2);
        boolean other = random.nextInt(closing ? 3 : 15) == 0;
        return new int[] {other ? between(-1, 3) : client, f, random.nextInt(4) == 0 ? random.nextInt() : told.size()};
    }

    private long ofFiles(String name, int[] a) {
        switch (name) {
            case "power": return files.power(a[0], a[1], a[2] == 1) ? 1 : 0;
            case "takeover": return files.takeover(a[0]);
            case "make": return files.make(a[0], a[1], a[2]);
            case "append": return files.append(a[0], a[1], a[2]);
            case "pass": return files.pass(a[0]);
            case "close": return files.close(a[0], a[1]);
            case "remove": return files.remove(a[0]);
            case "move": return files.move(a[0], a[1], a[2]);
            case "fold": return files.fold();
            default: return files.tend(a[0]);
        }
    }

    private long ofModel(String name, int[] a) {
        switch (name) {
            case "power": return model.power(a[0], a[1], a[2] == 1) ? 1 : 0;
            case "takeover": return model.takeover(a[0]);
            case "make": return model.make(a[0], a[1], a[2]);
            case "append": return model.append(a[0], a[1], a[2]);
            case "pass": return model.pass(a[0]);
            case "close": return model.close(a[0], a[1]);
            case "remove": return model.remove(a[0]);
            case "move": return model.move(a[0], a[1], a[2]);
            case "fold": return model.fold();
            default: return model.tend(a[0]);
        }
    }

    private String compareAll() {
        for (int what = -1; what < 7; what++) {
            if (files.status(what) != model.status(what)) {
                return "status(" + what + ") answered " + files.status(what) + ", due is " + model.status(what);
            }
        }
        String wrong = compareInodes();
        wrong = wrong == null ? compareReplicas() : wrong;
        return wrong == null ? compareJournals() : wrong;
    }

    private String compareInodes() {
        for (int i = -1; i < 13; i++) {
            for (int what = -1; what < 14; what++) {
                if (files.node(i, what) != model.node(i, what)) {
                    return "node(" + i + ", " + what + ") answered " + files.node(i, what) + ", due is " + model.node(i, what);
                }
            }
            int kind = model.node(i, 0);
            int blocks = kind < 2 ? 0 : model.node(i, 3);
            for (int k = -1; k <= blocks; k++) {
                for (int what = -1; what < 6; what++) {
                    if (files.block(i, k, what) != model.block(i, k, what)) {
                        return "block(" + i + ", " + k + ", " + what + ") answered " + files.block(i, k, what) + ", due is "
                            + model.block(i, k, what);
                    }
                }
            }
            for (int k = -1; k <= 8 * blocks; k++) {
                if (files.read(i, k) != model.read(i, k)) {
                    return "read(" + i + ", " + k + ") answered " + files.read(i, k) + ", due is " + model.read(i, k);
                }
            }
        }
        return null;
    }

    private String compareReplicas() {
        for (int d = -1; d < 6; d++) {
            for (int b = -1; b < 17; b++) {
                for (int what = -1; what < 3; what++) {
                    if (files.replica(d, b, what) != model.replica(d, b, what)) {
                        return "replica(" + d + ", " + b + ", " + what + ") answered " + files.replica(d, b, what) + ", due is "
                            + model.replica(d, b, what);
                    }
                }
            }
        }
        return null;
    }

    private String compareJournals() {
        for (int j = -1; j < 4; j++) {
            int records = model.journal(j, -1, 0);
            for (int k = -2; k < records + 2; k++) {
                for (int what = -1; what < 6; what++) {
                    if (files.journal(j, k, what) != model.journal(j, k, what)) {
                        return "journal(" + j + ", " + k + ", " + what + ") answered " + files.journal(j, k, what) + ", due is "
                            + model.journal(j, k, what);
                    }
                }
            }
        }
        return null;
    }
}
