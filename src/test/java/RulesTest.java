import java.io.IOException;
import java.lang.reflect.Field;
import java.lang.reflect.Method;
import java.lang.reflect.Modifier;
import java.nio.charset.StandardCharsets;
import java.nio.file.Files;
import java.nio.file.Path;
import java.util.Arrays;
import java.util.List;
import java.util.Set;
import java.util.TreeSet;
import java.util.stream.Collectors;

/** The document's face and those rules of LANGUAGE.md that can be told from the class and its source. */
public final class RulesTest {
    private static final Set<String> FACE = Set.of("write(long,int)", "erase()", "fault()", "inn()", "place(int,int)",
        "guest(int,int)", "as(int,int)", "walk(int)", "stop()", "play()", "keep(int)", "back(int)", "standing(int)",
        "odds(int,int,int,int)", "surest(int,int,int,int)", "still(int,int,int)", "plot(int,int,int,int)",
        "price(int)", "laid(int,int,int,int)", "left(int,int)", "seen(int,int)", "forget()", "fits(int)",
        "count(int)");
    private static final Set<String> CONSTANTS = Set.of("NONE", "UNKNOWN", "OUTSIDE", "NOT", "FULL");
    private static final List<String> BARRED = List.of("throw", "throws", "try", "catch", "synchronized", "assert",
        "double", "float", "hashCode", "Object", "System.out", "System.err", "System.nano", "System.current", "Random",
        "Thread", "protected", "native", "var");
    private static final Check CHECK = new Check("rules");

    public static void main(String[] args) throws IOException {
        faceIsTheDocuments();
        for (Class<?> inside : OneTooFew.class.getDeclaredClasses()) {
            insideIsPlain(inside);
        }
        CHECK.holds("at most twelve classes", OneTooFew.class.getDeclaredClasses().length < 12);
        sourceKeepsToTheRules(Files.readString(Path.of("src/main/java/OneTooFew.java"), StandardCharsets.ISO_8859_1));
        CHECK.end();
    }

    private static String signature(Method method) {
        return method.getName() + Arrays.stream(method.getParameterTypes()).map(Class::getSimpleName)
            .collect(Collectors.joining(",", "(", ")"));
    }

    private static void faceIsTheDocuments() {
        Class<?> c = OneTooFew.class;
        CHECK.holds("public and final", Modifier.isPublic(c.getModifiers()) && Modifier.isFinal(c.getModifiers()));
        Set<String> open = new TreeSet<>();
        for (Method method : c.getDeclaredMethods()) {
            CHECK.holds(method + ": public or private", isOpenOrPrivate(method.getModifiers()));
            if (Modifier.isPublic(method.getModifiers())) {
                open.add(signature(method));
                CHECK.holds(method + ": int", method.getReturnType() == int.class);
                CHECK.holds(method + ": not static", !Modifier.isStatic(method.getModifiers()));
            } else {
                CHECK.holds(method + ": not a public one's name", isNoName(method.getName()));
            }
        }
        CHECK.holds("the face: " + open, open.equals(new TreeSet<>(FACE)));
        Set<String> constants = new TreeSet<>();
        for (Field field : c.getDeclaredFields()) {
            CHECK.holds(field + ": public or private", isOpenOrPrivate(field.getModifiers()));
            if (Modifier.isPublic(field.getModifiers())) {
                constants.add(field.getName());
            }
            CHECK.holds(field + ": final if static", isFinalIfStatic(field));
        }
        CHECK.holds("the constants: " + constants, constants.equals(new TreeSet<>(CONSTANTS)));
        CHECK.due("constructors", c.getDeclaredConstructors().length, 1);
        CHECK.due("public constructors", c.getConstructors().length, 1);
    }

    private static boolean isOpenOrPrivate(int modifiers) {
        return Modifier.isPublic(modifiers) || Modifier.isPrivate(modifiers);
    }

    private static boolean isFinalIfStatic(Field field) {
        return !Modifier.isStatic(field.getModifiers()) || Modifier.isFinal(field.getModifiers());
    }

    private static boolean isNoName(String name) {
        return FACE.stream().noneMatch(one -> one.startsWith(name + "("));
    }

    private static void insideIsPlain(Class<?> inside) {
        CHECK.holds(inside + ": static", Modifier.isStatic(inside.getModifiers()));
        CHECK.holds(inside + ": not public", !Modifier.isPublic(inside.getModifiers()));
        CHECK.holds(inside + ": at most twenty fields", inside.getDeclaredFields().length <= 20);
        for (Field field : inside.getDeclaredFields()) {
            CHECK.holds(field + ": final if static", isFinalIfStatic(field));
        }
        for (Method method : inside.getDeclaredMethods()) {
            CHECK.holds(method + ": not a public one's name", isNoName(method.getName()));
            CHECK.holds(method + ": at most seven parameters", method.getParameterCount() <= 7);
        }
    }

    private static void sourceKeepsToTheRules(String source) {
        String bare = source.replaceAll("(?s)/\\*.*?\\*/", "").replaceAll("//[^\n]*", "")
            .replaceAll("\"[^\"\n]*\"", "\"\"");
        for (String word : BARRED) {
            CHECK.holds("no " + word, !bare.matches("(?s).*\\b" + word.replace(".", "\\.") + "\\b.*"));
        }
        CHECK.holds("no lambda or method reference", !bare.contains("->") && !bare.contains("::"));
        CHECK.holds("nothing Exact", !bare.contains("Exact("));
        CHECK.holds("no package", !bare.matches("(?s).*\\bpackage\\b.*"));
        for (String line : bare.split("\n")) {
            if (line.startsWith("import ")) {
                CHECK.holds(line, line.matches("import java\\.util\\.(Arrays|ArrayList|List);"));
            }
        }
        methodsAreShort(bare);
        rowsAreMadeOnce(bare);
    }

    /** A method's lines are those from one that opens at a member's depth to the one that closes it. */
    private static void methodsAreShort(String bare) {
        int begin = 0;
        String[] lines = bare.split("\n");
        for (int i = 0; i < lines.length; i++) {
            if (lines[i].matches(" {4}( {4})?\\w.*\\) \\{")) {
                begin = i;
            } else if (lines[i].matches(" {4}( {4})?\\}")) {
                CHECK.holds("at most sixty lines: " + lines[begin].trim(), i - begin <= 60 || isClass(lines, i));
            }
        }
    }

    private static boolean isClass(String[] lines, int end) {
        return lines[end].equals("    }");
    }

    /** Objects and rows are made where fields are, so that no call makes any. */
    private static void rowsAreMadeOnce(String bare) {
        for (String line : bare.split("\n")) {
            if (line.contains("new ")) {
                boolean isField = line.matches(" {8}(private )?final \\S+ \\w+ = new \\S+.*;");
                boolean isInConstructor = line.matches(" {8}\\w+ = new [A-Z]\\w+\\(.*\\);");
                CHECK.holds("made once: " + line.trim(), isField || isInConstructor);
            }
        }
    }
}
