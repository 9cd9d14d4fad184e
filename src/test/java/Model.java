import java.util.ArrayList;
import java.util.HashMap;
import java.util.List;
import java.util.Map;
import java.util.TreeMap;
import java.util.TreeSet;

/**
 * The document told a second time, plainly and slowly: the inodes are worked out from the records at every question,
 * and calls that write records are first tried on a copy, to learn whether they are refused and how much they write.
 */
final class Model {
    static final int NONE = -1, REFUSED = -2, LOST = -3, FULL = -4;
    static final long NO_UNIT = 10000000000L;

    record Entry(int epoch, int kind, int a, int b, int c) {
    }

    static final class Copy {
        int stamp;
        List<Integer> units = new ArrayList<>();

        Copy(int stamp, List<Integer> units) {
            this.stamp = stamp;
            this.units.addAll(units);
        }
    }

    static final class Inode {
        boolean directory;
        boolean open;
        int client;
        int place;
        int closed;
        List<Integer> row = new ArrayList<>();
    }

    static final class View {
        Map<Integer, Inode> inodes = new TreeMap<>();
        Map<Integer, Integer> stamps = new HashMap<>();
    }

    static final class Answer extends RuntimeException {
        private static final long serialVersionUID = 1L;
        final int code;

        Answer(int code) {
            super(null, null, false, false);
            this.code = code;
        }
    }

    interface Work {
        int on(Model model);
    }

    final boolean[][] up = {{true, true, true, true, true}, {true, true, true}, {true, true}};
    final List<List<Entry>> logs = new ArrayList<>();
    final int[] promises = new int[3];
    final int[] bases = new int[3];
    final boolean[] touch = new boolean[3];
    final List<TreeMap<Integer, Copy>> disks = new ArrayList<>();
    int master = NONE;
    int epoch = 0;
    boolean trial = false;
    int written = 0;

    Model() {
        for (int j = 0; j < 3; j++) {
            logs.add(new ArrayList<>());
        }
        for (int d = 0; d < 5; d++) {
            disks.add(new TreeMap<>());
        }
    }

    private Model trialCopy() {
        Model m = new Model();
        for (int s = 0; s < 3; s++) {
            System.arraycopy(up[s], 0, m.up[s], 0, up[s].length);
        }
        for (int j = 0; j < 3; j++) {
            m.logs.get(j).addAll(logs.get(j));
            m.promises[j] = promises[j];
            m.bases[j] = bases[j];
            m.touch[j] = touch[j];
        }
        for (int d = 0; d < 5; d++) {
            for (Map.Entry<Integer, Copy> e : disks.get(d).entrySet()) {
                m.disks.get(d).put(e.getKey(), new Copy(e.getValue().stamp, e.getValue().units));
            }
        }
        m.master = master;
        m.epoch = epoch;
        m.trial = true;
        return m;
    }

    // ---- the log and what it says ----

    private List<Entry> log() {
        for (int j = 0; j < 3; j++) {
            if (touch[j]) {
                return logs.get(j);
            }
        }
        throw new IllegalStateException("no journal is in touch");
    }

    View view() {
        View v = new View();
        Inode root = new Inode();
        root.directory = true;
        root.place = NONE;
        v.inodes.put(0, root);
        List<Entry> log = log();
        for (int number = 0; number < log.size(); number++) {
            Entry e = log.get(number);
            int stamp = 2048 * e.epoch + number;
            Inode i = v.inodes.get(e.a);
            switch (e.kind) {
                case 0 -> {
                    Inode made = new Inode();
                    made.directory = e.c == -1;
                    made.open = e.c != -1;
                    made.client = e.c;
                    made.place = e.b;
                    v.inodes.put(e.a, made);
                }
                case 1 -> {
                    i.row.add(e.b);
                    v.stamps.put(e.b, stamp);
                }
                case 2 -> v.stamps.put(e.a, stamp);
                case 3 -> {
                    i.open = false;
                    i.closed = e.b;
                    if (e.b == 0 && !i.row.isEmpty()) {
                        i.row.remove(i.row.size() - 1);
                    }
                }
                case 4 -> v.inodes.remove(e.a);
                case 5 -> i.place = e.b;
                default -> throw new IllegalStateException("kind " + e.kind);
            }
        }
        return v;
    }

    private void write(int kind, int a, int b, int c) {
        written++;
        int got = 0;
        for (int j = 0; j < 3; j++) {
            if (!trial && !up[1][j]) {
                touch[j] = false;
            }
            if (touch[j]) {
                logs.get(j).add(new Entry(epoch, kind, a, b, c));
                got++;
            }
        }
        if (got < 2) {
            master = NONE;
            throw new Answer(LOST);
        }
    }

    /** NONE, REFUSED, FULL and LOST in this order, the first three without a change. */
    private int writing(Work work) {
        if (master == NONE) {
            return NONE;
        }
        Model attempt = trialCopy();
        int tried;
        try {
            tried = work.on(attempt);
        } catch (Answer answer) {
            tried = answer.code;
        }
        if (tried == REFUSED) {
            return REFUSED;
        }
        for (int j = 0; j < 3; j++) {
            int size = logs.get(j).size() + attempt.written;
            if (touch[j] && (size > 1000 || (up[1][j] && size - bases[j] > 40))) {
                return FULL;
            }
        }
        if (tried == FULL) {
            return FULL;
        }
        try {
            return work.on(this);
        } catch (Answer answer) {
            return answer.code;
        }
    }

    private static void must(boolean so) {
        if (!so) {
            throw new Answer(REFUSED);
        }
    }

    // ---- replicas ----

    private TreeMap<Integer, Copy> upCopies(int b) {
        TreeMap<Integer, Copy> copies = new TreeMap<>();
        for (int d = 0; d < 5; d++) {
            if (up[0][d] && disks.get(d).containsKey(b)) {
                copies.put(d, disks.get(d).get(b));
            }
        }
        return copies;
    }

    private TreeMap<Integer, Copy> good(View v, int b) {
        TreeMap<Integer, Copy> copies = upCopies(b);
        int greatest = copies.values().stream().mapToInt(c -> c.stamp).max().orElse(NONE);
        copies.values().removeIf(c -> c.stamp != greatest || greatest < v.stamps.get(b));
        return copies;
    }

    private boolean hangs(View v, int b) {
        TreeMap<Integer, Copy> good = good(v, b);
        for (int d = 0; d < 5 && !good.isEmpty(); d++) {
            if (!up[0][d] && disks.get(d).containsKey(b) && disks.get(d).get(b).stamp == good.firstEntry().getValue().stamp) {
                return true;
            }
        }
        return false;
    }

    private static int fewest(TreeMap<Integer, Copy> copies) {
        return copies.values().stream().mapToInt(c -> c.units.size()).min().orElse(NONE);
    }

    private static boolean even(TreeMap<Integer, Copy> copies) {
        return copies.values().stream().mapToInt(c -> c.units.size()).distinct().count() <= 1;
    }

    private int nextStamp() {
        return 2048 * epoch + log().size();
    }

    private void renew(int b) {
        TreeMap<Integer, Copy> good = good(view(), b);
        int left = fewest(good);
        for (Copy c : good.values()) {
            c.units.subList(left, c.units.size()).clear();
            c.stamp = nextStamp();
        }
        write(2, b, 0, 0);
    }

    private List<Integer> upByLoad() {
        List<Integer> nodes = new ArrayList<>();
        for (int d = 0; d < 5; d++) {
            if (up[0][d]) {
                nodes.add(d);
            }
        }
        nodes.sort((x, y) -> disks.get(x).size() != disks.get(y).size() ? disks.get(x).size() - disks.get(y).size() : x - y);
        return nodes;
    }

    private static TreeSet<Integer> inRows(View v) {
        TreeSet<Integer> blocks = new TreeSet<>();
        v.inodes.values().forEach(i -> blocks.addAll(i.row));
        return blocks;
    }

    private static TreeSet<Integer> lastOfOpen(View v) {
        TreeSet<Integer> blocks = new TreeSet<>();
        for (Inode i : v.inodes.values()) {
            if (i.open && !i.row.isEmpty()) {
                blocks.add(i.row.get(i.row.size() - 1));
            }
        }
        return blocks;
    }

    // ---- the calls ----

    boolean power(int sort, int n, boolean on) {
        if (sort < 0 || sort > 2 || n < 0 || n >= up[sort].length || up[sort][n] == on) {
            return false;
        }
        up[sort][n] = on;
        if (sort == 2 && n == master && !on) {
            master = NONE;
        }
        return true;
    }

    int takeover(int m) {
        List<Integer> alive = new ArrayList<>();
        for (int j = 0; j < 3; j++) {
            if (up[1][j]) {
                alive.add(j);
            }
        }
        if (m < 0 || m > 1 || !up[2][m] || alive.size() < 2) {
            return REFUSED;
        }
        epoch = alive.stream().mapToInt(j -> promises[j]).max().getAsInt() + 1;
        int best = alive.stream().sorted((x, y) -> {
            int byEpoch = lastEpoch(y) - lastEpoch(x);
            int bySize = logs.get(y).size() - logs.get(x).size();
            return byEpoch != 0 ? byEpoch : bySize != 0 ? bySize : x - y;
        }).findFirst().get();
        List<Entry> taken = new ArrayList<>(logs.get(best));
        int base = bases[best];
        for (int j = 0; j < 3; j++) {
            touch[j] = alive.contains(j);
            if (touch[j]) {
                promises[j] = epoch;
                bases[j] = base;
                logs.set(j, new ArrayList<>(taken));
            }
        }
        master = m;
        return epoch;
    }

    private int lastEpoch(int j) {
        List<Entry> log = logs.get(j);
        return log.isEmpty() ? 0 : log.get(log.size() - 1).epoch;
    }

    private static boolean nameFree(View v, int directory, int name) {
        Inode d = v.inodes.get(directory);
        return d != null && d.directory && name >= 0 && name <= 7
            && v.inodes.values().stream().noneMatch(i -> i.place == 8 * directory + name);
    }

    int make(int c, int directory, int name) {
        return writing(m -> {
            View v = m.view();
            must(c >= -1 && c <= 3 && nameFree(v, directory, name));
            int i = 0;
            while (v.inodes.containsKey(i)) {
                i++;
            }
            if (i > 11) {
                throw new Answer(FULL);
            }
            m.write(0, i, 8 * directory + name, c);
            return i;
        });
    }

    int append(int c, int f, int unit) {
        return writing(m -> {
            Inode file = m.view().inodes.get(f);
            must(file != null && file.open && file.client == c);
            boolean fresh = file.row.isEmpty();
            if (!fresh) {
                int last = file.row.get(file.row.size() - 1);
                TreeMap<Integer, Copy> good = m.good(m.view(), last);
                must(!good.isEmpty());
                if (m.hangs(m.view(), last)) {
                    m.renew(last);
                } else {
                    must(good.firstEntry().getValue().units.size() < 8 || even(good));
                }
                fresh = m.good(m.view(), last).values().stream().allMatch(r -> r.units.size() == 8);
            }
            if (fresh) {
                m.extend(f, file);
            }
            List<Integer> row = m.view().inodes.get(f).row;
            List<Integer> units = m.good(m.view(), row.get(row.size() - 1)).firstEntry().getValue().units;
            units.add(unit);
            return units.size();
        });
    }

    private void extend(int f, Inode file) {
        must(file.row.size() < 3 && !upByLoad().isEmpty());
        TreeSet<Integer> used = inRows(view());
        int b = 0;
        while (used.contains(b)) {
            b++;
        }
        if (b > 15) {
            throw new Answer(FULL);
        }
        List<Integer> nodes = upByLoad();
        int stamp = nextStamp();
        for (int d : nodes.subList(0, Math.min(3, nodes.size()))) {
            disks.get(d).put(b, new Copy(stamp, List.of()));
        }
        write(1, f, b, 0);
    }

    int pass(int n) {
        if (master == NONE) {
            return NONE;
        }
        if (n < 0 || n > 32) {
            return REFUSED;
        }
        View v = view();
        int done = 0;
        while (done < n && passOne(v)) {
            done++;
        }
        return done;
    }

    private boolean passOne(View v) {
        for (int b : lastOfOpen(v)) {
            TreeMap<Integer, Copy> good = good(v, b);
            for (int d : good.keySet()) {
                Map.Entry<Integer, Copy> lower = good.lowerEntry(d);
                List<Integer> mine = good.get(d).units;
                if (lower != null && mine.size() < lower.getValue().units.size()) {
                    mine.add(lower.getValue().units.get(mine.size()));
                    return true;
                }
            }
        }
        return false;
    }

    int close(int c, int f) {
        return writing(m -> {
            Inode file = m.view().inodes.get(f);
            must(file != null && file.open && (c == -1 || file.client == c));
            int units = 0;
            if (!file.row.isEmpty()) {
                int last = file.row.get(file.row.size() - 1);
                must(!m.good(m.view(), last).isEmpty());
                if (c == -1 || m.hangs(m.view(), last)) {
                    m.renew(last);
                } else {
                    must(even(m.good(m.view(), last)));
                }
                units = fewest(m.good(m.view(), last));
            }
            m.write(3, f, units, 0);
            return 0;
        });
    }

    int remove(int i) {
        return writing(m -> {
            View v = m.view();
            Inode inode = v.inodes.get(i);
            must(inode != null && i != 0);
            must(inode.directory ? entries(v, i) == 0 : !inode.open);
            m.write(4, i, 0, 0);
            return 0;
        });
    }

    private static int entries(View v, int directory) {
        return (int) v.inodes.values().stream().filter(i -> i.place != NONE && i.place / 8 == directory).count();
    }

    int move(int i, int directory, int name) {
        return writing(m -> {
            View v = m.view();
            must(v.inodes.containsKey(i) && i != 0 && nameFree(v, directory, name));
            int at = directory;
            while (at != 0) {
                must(at != i);
                at = v.inodes.get(at).place / 8;
            }
            m.write(5, i, 8 * directory + name, 0);
            return 0;
        });
    }

    int fold() {
        if (master == NONE) {
            return NONE;
        }
        int count = 0;
        for (int j = 0; j < 3; j++) {
            if (touch[j] && up[1][j]) {
                bases[j] = logs.get(j).size();
                count++;
            }
        }
        return count;
    }

    long read(int f, int k) {
        return master == NONE ? NO_UNIT : read(view(), f, k);
    }

    private long read(View v, int f, int k) {
        Inode file = v.inodes.get(f);
        if (file == null || file.directory || k < 0 || k / 8 >= file.row.size()) {
            return NO_UNIT;
        }
        boolean last = k / 8 == file.row.size() - 1;
        if (last && !file.open && file.closed != 0 && k % 8 >= file.closed) {
            return NO_UNIT;
        }
        TreeMap<Integer, Copy> good = good(v, file.row.get(k / 8));
        if (good.isEmpty() || good.values().stream().anyMatch(c -> c.units.size() <= k % 8)) {
            return NO_UNIT;
        }
        return good.firstEntry().getValue().units.get(k % 8);
    }

    int node(int i, int what) {
        if (master == NONE || i < 0 || i > 11) {
            return NONE;
        }
        View v = view();
        Inode inode = v.inodes.get(i);
        if (inode == null) {
            return what == 0 ? 0 : NONE;
        }
        if (what >= 5 && what <= 12 && inode.directory) {
            return v.inodes.entrySet().stream().filter(e -> e.getValue().place == 8 * i + what - 5)
                .map(Map.Entry::getKey).findFirst().orElse(NONE);
        }
        return switch (what) {
            case 0 -> inode.directory ? 1 : inode.open ? 2 : 3;
            case 1 -> inode.place;
            case 2 -> inode.open ? inode.client : NONE;
            case 3 -> inode.directory ? entries(v, i) : inode.row.size();
            case 4 -> {
                int k = 0;
                while (read(v, i, k) != NO_UNIT) {
                    k++;
                }
                yield k;
            }
            default -> NONE;
        };
    }

    int block(int f, int k, int what) {
        Inode file = master == NONE ? null : view().inodes.get(f);
        if (file == null || k < 0 || k >= file.row.size()) {
            return NONE;
        }
        View v = view();
        int b = file.row.get(k);
        return switch (what) {
            case 0 -> b;
            case 1 -> v.stamps.get(b);
            case 2 -> good(v, b).keySet().stream().mapToInt(d -> 1 << d).sum();
            case 3 -> fewest(good(v, b));
            case 4 -> hangs(v, b) ? 1 : 0;
            default -> NONE;
        };
    }

    int replica(int d, int b, int what) {
        Copy copy = d < 0 || d > 4 ? null : disks.get(d).get(b);
        return copy == null ? NONE : what == 0 ? copy.stamp : what == 1 ? copy.units.size() : NONE;
    }

    int journal(int j, int k, int what) {
        if (j < 0 || j > 2) {
            return NONE;
        }
        if (k == -1) {
            int[] facts = {logs.get(j).size(), promises[j], touch[j] ? 1 : 0, bases[j]};
            return what >= 0 && what < 4 ? facts[what] : NONE;
        }
        if (k < bases[j] || k >= logs.get(j).size() || what < 0 || what > 4) {
            return NONE;
        }
        Entry e = logs.get(j).get(k);
        return new int[] {e.epoch, e.kind, e.a, e.b, e.c}[what];
    }

    int tend(int d) {
        if (master == NONE) {
            return NONE;
        }
        View v = view();
        TreeSet<Integer> rows = inRows(v);
        if (d == -1) {
            TreeSet<Integer> candidates = new TreeSet<>(rows);
            candidates.removeAll(lastOfOpen(v));
            for (int b : candidates) {
                TreeMap<Integer, Copy> good = good(v, b);
                List<Integer> targets = upByLoad();
                targets.removeAll(good.keySet());
                if ((good.size() == 1 || good.size() == 2) && !targets.isEmpty()) {
                    Copy first = good.firstEntry().getValue();
                    disks.get(targets.get(0)).put(b, new Copy(first.stamp, first.units));
                    return b;
                }
            }
            return NONE;
        }
        if (d < 0 || d > 4 || !up[0][d]) {
            return REFUSED;
        }
        List<Integer> drop = new ArrayList<>();
        for (int b : disks.get(d).keySet()) {
            if (!rows.contains(b) || !good(v, b).containsKey(d)) {
                drop.add(b);
            }
        }
        drop.forEach(b -> disks.get(d).remove(b));
        return drop.size();
    }

    int status(int what) {
        if (what == 1) {
            return epoch;
        }
        if (what == 3) {
            return disks.stream().mapToInt(TreeMap::size).sum();
        }
        if (master == NONE) {
            return NONE;
        }
        return what == 0 ? master : what == 2 ? log().size() : what == 4 ? view().inodes.size() : NONE;
    }
}
