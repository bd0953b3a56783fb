import java.io.File;
import java.io.PrintWriter;
import java.io.StringWriter;
import java.lang.reflect.Modifier;
import java.net.URISyntaxException;
import java.util.ArrayList;
import java.util.Arrays;
import java.util.HashMap;
import java.util.HashSet;
import java.util.List;
import java.util.Map;
import java.util.Set;
import java.util.TreeMap;
import java.util.regex.Matcher;
import java.util.regex.Pattern;
import java.util.spi.ToolProvider;

/** Those rules of LANGUAGE.md that can be told from the compiled class alone: what it calls, how deep, what it makes. */
public final class CompiledTest {
    private static final int DEEPEST = 8;
    /** Rule 4, as names of methods in a class file. */
    private static final List<String> LIBRARY = List.of(
        "java/lang/Object\\.<init>",
        "java/lang/String\\.(length|charAt|isEmpty|equals|indexOf|substring|toCharArray|<init>)",
        "java/lang/StringBuilder\\.(<init>|append|charAt|setCharAt|setLength|deleteCharAt|reverse|length|toString)",
        "java/util/(ArrayList|List)\\.(<init>|add|get|set|remove|size|isEmpty|clear|of)",
        "java/lang/(Integer|Long|Math)\\.(?!\\w*Exact)\\w+",
        "java/lang/System\\.arraycopy",
        "java/util/Arrays\\.(copyOf|copyOfRange|fill)");
    /** Instructions by which an object or a row is made. */
    private static final Set<String> MAKERS = Set.of("new", "newarray", "anewarray", "multianewarray");
    /** Instructions of what rules 2 and 6 leave out; a cast would need the test that makes it safe. */
    private static final Set<String> BARRED = Set.of("athrow", "monitorenter", "monitorexit", "invokedynamic",
        "checkcast", "jsr", "ret", "putstatic");
    private static final Pattern CLASS = Pattern.compile("^(?:\\w+ )*class ([\\w$]+).*\\{$");
    private static final Pattern METHOD = Pattern.compile("^  (?:[\\w$\\[\\].]+ )*([\\w$]+)\\((.*)\\);$");
    private static final Pattern STEP = Pattern.compile("^ *\\d+: (\\w+)(?:.*// (?:Interface)?Method ([^:]+):.*)?.*$");
    private static final Check CHECK = new Check("compiled");

    /** Own methods, each with the own methods that it calls. */
    private static final Map<String, Set<String>> CALLS = new TreeMap<>();
    private static final Map<String, Integer> DEPTHS = new HashMap<>();

    public static void main(String[] args) throws URISyntaxException {
        readAll(listing());
        CHECK.holds("the class was read", CALLS.size() > OneTooFew.class.getDeclaredMethods().length);
        for (var method : OneTooFew.class.getDeclaredMethods()) {
            if (Modifier.isPublic(method.getModifiers())) {
                String name = "OneTooFew." + method.getName();
                CHECK.holds(name + " was read", CALLS.containsKey(name));
                int depth = depthOf(name, new HashSet<>());
                CHECK.holds(name + " goes " + depth + " deep, at most " + DEEPEST + " are free", depth <= DEEPEST);
            }
        }
        CHECK.end();
    }

    private static List<String> listing() throws URISyntaxException {
        ToolProvider javap = ToolProvider.findFirst("javap").orElseThrow();
        File classes = new File(OneTooFew.class.getProtectionDomain().getCodeSource().getLocation().toURI());
        List<String> asked = new ArrayList<>(List.of("-p", "-c", "-cp", classes.getPath(), "OneTooFew"));
        for (Class<?> inside : OneTooFew.class.getDeclaredClasses()) {
            asked.add(inside.getName());
        }
        StringWriter out = new StringWriter();
        int code = javap.run(new PrintWriter(out), new PrintWriter(System.err), asked.toArray(new String[0]));
        CHECK.due("javap", code, 0);
        return Arrays.asList(out.toString().split("\\R"));
    }

    private static void readAll(List<String> lines) {
        String owner = "";
        String method = "";
        for (String line : lines) {
            Matcher step = STEP.matcher(line);
            Matcher isClass = CLASS.matcher(line);
            Matcher isMethod = METHOD.matcher(line);
            if (isClass.matches()) {
                owner = isClass.group(1);
            } else if (isMethod.matches()) {
                method = isMethod.group(1).equals(owner) ? owner + ".<init>" : owner + "." + isMethod.group(1);
                CHECK.holds(method + " has a name of its own", CALLS.put(method, new HashSet<>()) == null);
            } else if (step.matches() && !method.isEmpty()) {
                readStep(owner, method, step.group(1), step.group(2));
            }
            CHECK.holds(method + " catches nothing", !line.contains("Exception table"));
            CHECK.holds(owner + " has no static block", !line.contains("static {}"));
        }
    }

    private static void readStep(String owner, String method, String step, String called) {
        CHECK.holds(method + " goes without " + step, !BARRED.contains(step));
        if (MAKERS.contains(step)) {
            CHECK.holds(method + " makes something, constructors alone may", method.endsWith(".<init>"));
        }
        if (called == null) {
            return;
        }
        String plain = called.replace("\"", "");
        String whole = plain.contains(".") ? plain : owner + "." + plain;
        if (whole.startsWith("OneTooFew")) {
            CALLS.get(method).add(whole);
        } else {
            CHECK.holds(method + " calls " + whole, LIBRARY.stream().anyMatch(whole::matches));
        }
    }

    /** How many own methods stand open at once at most; a method that comes back to itself fails. */
    private static int depthOf(String method, Set<String> open) {
        if (DEPTHS.containsKey(method)) {
            return DEPTHS.get(method);
        }
        boolean isNew = open.add(method);
        CHECK.holds(method + " does not come back to itself", isNew);
        if (!isNew) {
            return 0;
        }
        int deepest = 0;
        for (String called : CALLS.getOrDefault(method, Set.of())) {
            deepest = Math.max(deepest, depthOf(called, open));
        }
        open.remove(method);
        DEPTHS.put(method, deepest + 1);
        return deepest + 1;
    }
}
