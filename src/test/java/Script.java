import java.util.ArrayList;
import java.util.List;

/**
 * Runs of calls on a fresh object, told as text: a call and the answer that is due in each line, as in
 * "append(2, 1, 10) = 1". An answer is a number, a constant's name, true or false, NOUNIT, or "any".
 * With a star as the last argument the call is made with 0, 1, 2 and so on, one for each answer listed.
 */
final class Script {
    static final long NO_UNIT = 10000000000L;
    private static int wrong = 0;
    private static String sentence = "";

    private Script() {
    }

    /** The sentence of the document that the runs behind this line test; it is told with every wrong answer. */
    static void sentence(String quoted) {
        sentence = "\"" + quoted + "\" ";
    }

    static void run(String title, String... lines) {
        QuorumFiles files = new QuorumFiles();
        for (String line : String.join("\n", lines).split("\n")) {
            String text = line.strip();
            if (!text.isEmpty() && !text.startsWith("#")) {
                check(title, files, text);
            }
        }
    }

    /** The same lines, count times; every "@" in them stands for 0, 1, 2 and so on. */
    static String times(int count, String lines) {
        StringBuilder all = new StringBuilder();
        for (int i = 0; i < count; i++) {
            all.append(lines.replace("@", String.valueOf(i))).append('\n');
        }
        return all.toString();
    }

    static void due(String what, long got, long want) {
        if (got != want) {
            wrong++;
            System.out.println(sentence + what + " answered " + got + ", due is " + want);
        }
    }

    static void end() {
        if (wrong > 0) {
            System.out.println(wrong + " answers are not as due");
            System.exit(1);
        }
    }

    private static void check(String title, QuorumFiles files, String text) {
        int sign = text.indexOf('=');
        String call = text.substring(0, sign).strip();
        String[] wants = text.substring(sign + 1).strip().split("\\s+");
        String name = call.substring(0, call.indexOf('('));
        List<Long> args = new ArrayList<>();
        boolean starred = false;
        for (String part : call.substring(call.indexOf('(') + 1, call.indexOf(')')).split(",")) {
            String arg = part.strip();
            starred |= arg.equals("*");
            if (!arg.isEmpty() && !arg.equals("*")) {
                args.add(number(arg));
            }
        }
        if (!starred && wants.length != 1) {
            throw new IllegalArgumentException(text);
        }
        for (int i = 0; i < wants.length; i++) {
            List<Long> all = new ArrayList<>(args);
            if (starred) {
                all.add((long) i);
            }
            long got = call(files, name, all);
            if (!wants[i].equals("any")) {
                due(title + ": " + (starred ? call.replace("*", String.valueOf(i)) : call), got, number(wants[i]));
            }
        }
    }

    private static long number(String text) {
        switch (text) {
            case "NONE": return QuorumFiles.NONE;
            case "REFUSED": return QuorumFiles.REFUSED;
            case "LOST": return QuorumFiles.LOST;
            case "FULL": return QuorumFiles.FULL;
            case "NOUNIT": return NO_UNIT;
            case "true": case "up": return 1;
            case "false": case "down": return 0;
            default: return Long.parseLong(text);
        }
    }

    static long call(QuorumFiles files, String name, List<Long> args) {
        int[] a = new int[3];
        for (int i = 0; i < args.size(); i++) {
            a[i] = (int) (long) args.get(i);
        }
        String key = name + "/" + args.size();
        switch (key) {
            case "power/3": return files.power(a[0], a[1], a[2] == 1) ? 1 : 0;
            case "takeover/1": return files.takeover(a[0]);
            case "make/3": return files.make(a[0], a[1], a[2]);
            case "append/3": return files.append(a[0], a[1], a[2]);
            case "pass/1": return files.pass(a[0]);
            case "close/2": return files.close(a[0], a[1]);
            case "remove/1": return files.remove(a[0]);
            case "move/3": return files.move(a[0], a[1], a[2]);
            case "fold/0": return files.fold();
            case "read/2": return files.read(a[0], a[1]);
            case "node/2": return files.node(a[0], a[1]);
            case "block/3": return files.block(a[0], a[1], a[2]);
            case "replica/3": return files.replica(a[0], a[1], a[2]);
            case "journal/3": return files.journal(a[0], a[1], a[2]);
            case "tend/1": return files.tend(a[0]);
            case "status/1": return files.status(a[0]);
            default: throw new IllegalArgumentException(key);
        }
    }
}
