import java.io.IOException;
import java.lang.reflect.Method;
import java.lang.reflect.Modifier;
import java.util.HashMap;
import java.util.HashSet;
import java.util.List;
import java.util.Map;
import java.util.Set;

/** Those rules of LANGUAGE.md that can be told from the compiled class: what it calls, how deep, what it makes. */
public final class CompiledTest {
    private static final int DEEPEST = 8;
    /** Rule 4. */
    private static final List<String> LIBRARY = List.of(
        "java\\.lang\\.Object\\.<init>",
        "java\\.lang\\.String\\.(length|charAt|isEmpty|equals|indexOf|substring|toCharArray|<init>)",
        "java\\.lang\\.StringBuilder\\.(<init>|append|charAt|setCharAt|setLength|deleteCharAt|reverse|length|toString)",
        "java\\.util\\.(ArrayList|List)\\.(<init>|add|get|set|remove|size|isEmpty|clear|of)",
        "java\\.lang\\.(Integer|Long|Math)\\.(?!\\w*Exact)\\w+",
        "java\\.lang\\.System\\.arraycopy",
        "java\\.util\\.Arrays\\.(copyOf|copyOfRange|fill)");
    /** Instructions by which an object or a row is made. */
    private static final Set<Integer> MAKERS = Set.of(ClassFile.NEW, ClassFile.NEWARRAY, ClassFile.ANEWARRAY,
        ClassFile.MULTIANEWARRAY);
    /** Instructions of what rules 2, 5 and 6 leave out, and casts, of which the class has none to be made safe. */
    private static final Set<Integer> BARRED = Set.of(ClassFile.ATHROW, ClassFile.MONITORENTER, ClassFile.MONITOREXIT,
        ClassFile.INVOKEDYNAMIC, ClassFile.CHECKCAST, ClassFile.PUTSTATIC);
    private static final Check CHECK = new Check("compiled");

    /** Own methods, each with the own methods that it calls. */
    private static final Map<String, Set<String>> CALLS = new HashMap<>();
    private static final Map<String, Integer> DEPTHS = new HashMap<>();

    public static void main(String[] args) throws IOException {
        readAll(OneTooFew.class);
        for (Class<?> inside : OneTooFew.class.getDeclaredClasses()) {
            readAll(inside);
        }
        for (Method method : OneTooFew.class.getDeclaredMethods()) {
            if (Modifier.isPublic(method.getModifiers())) {
                String name = "OneTooFew." + method.getName();
                int depth = depthOf(name, new HashSet<>());
                CHECK.holds(name + " goes " + depth + " deep, at most " + DEEPEST + " are free", depth <= DEEPEST);
            }
        }
        CHECK.end();
    }

    private static void readAll(Class<?> read) throws IOException {
        for (ClassFile.Body body : new ClassFile(read).bodies()) {
            String method = body.method();
            CHECK.holds(method + " has a name of its own", CALLS.put(method, new HashSet<>()) == null);
            CHECK.due(method + " catches nothing", body.catches(), 0);
            CHECK.holds(method + " is no static block", !method.endsWith(".<clinit>"));
            for (ClassFile.Step step : body.steps()) {
                readStep(method, step);
            }
        }
        for (Method method : read.getDeclaredMethods()) {
            String name = read.getName() + "." + method.getName();
            CHECK.holds(name + " was read", CALLS.containsKey(name));
        }
    }

    private static void readStep(String method, ClassFile.Step step) {
        CHECK.holds(method + " goes without instruction " + step.code(), !BARRED.contains(step.code()));
        if (MAKERS.contains(step.code())) {
            CHECK.holds(method + " makes something: constructors alone may", method.endsWith(".<init>"));
        }
        if (step.called().startsWith("OneTooFew")) {
            CALLS.get(method).add(step.called());
        } else if (!step.called().isEmpty()) {
            CHECK.holds(method + " calls " + step.called(), LIBRARY.stream().anyMatch(step.called()::matches));
        }
    }

    /** How many own methods stand open at once at most; a method that comes back to itself fails. */
    private static int depthOf(String method, Set<String> open) {
        if (DEPTHS.containsKey(method)) {
            return DEPTHS.get(method);
        }
        boolean isNew = open.add(method);
        CHECK.holds(method + " does not come back to itself", isNew);
        CHECK.holds(method + " is known", CALLS.containsKey(method));
        if (!isNew) {
            return 0;
        }
        int deepest = 0;
        for (String called : CALLS.getOrDefault(method, Set.of())) {
            deepest = Math.max(deepest, depthOf(called, open));
        }
        open.remove(method);
        DEPTHS.put(method, deepest + 1);
        return deepest + 1;
    }
}
