import java.io.IOException;
import java.lang.reflect.Constructor;
import java.lang.reflect.Field;
import java.lang.reflect.Method;
import java.lang.reflect.Modifier;
import java.nio.file.Files;
import java.nio.file.Path;
import java.util.Map;
import java.util.Set;
import java.util.TreeMap;
import java.util.TreeSet;
import java.util.regex.Matcher;
import java.util.regex.Pattern;

/** The public face is the document's, and the source keeps to the rules of LANGUAGE.md that can be looked up. */
public final class FaceTest {
    private static final Set<String> METHODS = Set.of("boolean power(int,int,boolean)", "int takeover(int)", "int make(int,int,int)",
        "int append(int,int,int)", "int pass(int)", "int close(int,int)", "int remove(int)", "int move(int,int,int)", "int fold()",
        "long read(int,int)", "int node(int,int)", "int block(int,int,int)", "int replica(int,int,int)", "int journal(int,int,int)",
        "int tend(int)", "int status(int)");
    private static final Set<String> CONSTANTS = Set.of("NONE", "REFUSED", "LOST", "FULL");
    private static final Set<Class<?>> NUMBERS = Set.of(int.class, long.class, short.class, byte.class, char.class, boolean.class);

    public static void main(String[] args) throws IOException {
        constants();
        methods();
        fields();
        source(Files.readString(Path.of("src/main/java/QuorumFiles.java")));
        Script.end();
    }

    private static void isSo(String what, boolean so) {
        Script.due(what, so ? 1 : 0, 1);
    }

    private static void constants() {
        Script.due("NONE", QuorumFiles.NONE, -1);
        Script.due("REFUSED", QuorumFiles.REFUSED, -2);
        Script.due("LOST", QuorumFiles.LOST, -3);
        Script.due("FULL", QuorumFiles.FULL, -4);
    }

    private static void methods() {
        Class<?> type = QuorumFiles.class;
        isSo("public final class", Modifier.isPublic(type.getModifiers()) && Modifier.isFinal(type.getModifiers()));
        isSo("no nested class", type.getDeclaredClasses().length == 0);
        Constructor<?>[] constructors = type.getDeclaredConstructors();
        isSo("one public constructor", constructors.length == 1 && Modifier.isPublic(constructors[0].getModifiers())
            && constructors[0].getParameterCount() == 0);
        Set<String> open = new TreeSet<>();
        Set<String> openNames = new TreeSet<>();
        Set<String> hiddenNames = new TreeSet<>();
        for (Method method : type.getDeclaredMethods()) {
            boolean hidden = Modifier.isPrivate(method.getModifiers());
            (hidden ? hiddenNames : openNames).add(method.getName());
            if (!hidden) {
                isSo(method.getName() + " is public", Modifier.isPublic(method.getModifiers()));
                open.add(signature(method));
            }
            isSo(method.getName() + " answers a number", method.getReturnType() == void.class || NUMBERS.contains(method.getReturnType()));
            isSo(method.getName() + " takes at most seven", method.getParameterCount() <= 7);
        }
        isSo("the methods of the document, not " + open, open.equals(METHODS));
        hiddenNames.retainAll(openNames);
        isSo("private methods with names of public ones " + hiddenNames, hiddenNames.isEmpty());
    }

    private static String signature(Method method) {
        StringBuilder text = new StringBuilder(method.getReturnType() + " " + method.getName() + "(");
        String comma = "";
        for (Class<?> parameter : method.getParameterTypes()) {
            text.append(comma).append(parameter);
            comma = ",";
        }
        return text.append(")").toString();
    }

    private static void fields() {
        int count = 0;
        for (Field field : QuorumFiles.class.getDeclaredFields()) {
            Class<?> type = field.getType();
            boolean constant = Modifier.isStatic(field.getModifiers());
            count += constant ? 0 : 1;
            isSo(field.getName() + " has its access", CONSTANTS.contains(field.getName()) ? Modifier.isPublic(field.getModifiers())
                : Modifier.isPrivate(field.getModifiers()));
            isSo(field.getName() + " has its type", constant ? Modifier.isFinal(field.getModifiers()) && (type == int.class || type == long.class)
                : NUMBERS.contains(type.isArray() ? type.getComponentType() : type));
        }
        isSo(count + " fields", count <= 40);
    }

    private static void source(String text) {
        String code = text.replaceAll("(?s)/\\*.*?\\*/", "").replaceAll("//[^\n]*", "");
        Matcher banned = Pattern.compile("\\b(import|package|String|Math|Integer|System|Arrays|Object|float|double|throw|try|catch|synchronized"
            + "|assert|instanceof|null|enum|record|interface)\\b|->|::|\"|\\[\\s*\\]\\s*\\[").matcher(code);
        isSo("no banned word", !banned.find());
        Matcher made = Pattern.compile("\\bnew\\b[^;]*;").matcher(code);
        while (made.find()) {
            isSo(made.group() + " has a constant length", made.group().matches("new (int|boolean)\\[[A-Z_]+\\];"));
        }
        Matcher nested = Pattern.compile("\\b(?!if\\b|for\\b|while\\b|switch\\b|return\\b)[a-z]\\w*\\([^()]*\\b[a-z]\\w*\\(").matcher(code);
        isSo("no call among another call's arguments", !nested.find());
        calls(code);
    }

    private static void calls(String code) {
        Map<String, String> bodies = new TreeMap<>();
        Matcher method = Pattern.compile("(?ms)^    (?:public|private) [a-z]+ (\\w+)\\([^)]*\\) \\{\n(.*?)^    \\}$").matcher(code);
        while (method.find()) {
            bodies.put(method.group(1), method.group(2));
            isSo(method.group(1) + " is short", method.group(2).lines().count() <= 60);
        }
        isSo("all methods are found", bodies.size() == QuorumFiles.class.getDeclaredMethods().length);
        for (String name : bodies.keySet()) {
            isSo(name + " calls at most six deep", depth(name, bodies, 0) <= 6);
        }
    }

    // A recursion would go on without an end, so it stops where the depth is wrong already.
    private static int depth(String name, Map<String, String> bodies, int above) {
        int deepest = 0;
        Matcher call = Pattern.compile("\\b([a-z]\\w*)\\(").matcher(bodies.get(name));
        while (above <= 6 && call.find()) {
            if (bodies.containsKey(call.group(1))) {
                deepest = Math.max(deepest, depth(call.group(1), bodies, above + 1));
            }
        }
        return 1 + deepest;
    }
}
