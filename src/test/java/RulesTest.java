import java.io.IOException;
import java.lang.reflect.Field;
import java.lang.reflect.Member;
import java.lang.reflect.Method;
import java.lang.reflect.Modifier;
import java.nio.file.Files;
import java.nio.file.Path;
import java.util.List;
import java.util.Set;
import java.util.TreeSet;
import java.util.regex.Pattern;

/** The public face, and the rules of LANGUAGE.md that can be seen without reading the program. */
public final class RulesTest {
    private static final Set<String> FACE = Set.of(
            "int BAD", "int FULL", "int VALENCE",
            "int atom(int,int,int)", "int bond(int,int,int,int)", "boolean move(int,int,int)",
            "boolean mark(int,int,int)", "int clear()", "int flip()", "int hydrogens(int)",
            "int sense(int)", "int turn(int)", "int row(int)", "int senses()", "boolean chiral()",
            "int isomers()", "int keep()", "int compare()", "int write()", "int at(int)");
    private static final List<String> RULED_OUT = List.of(
            "->", "::", "\\bthrow\\b", "\\btry\\b", "\\bcatch\\b", "\\bfinally\\b", "\\bassert\\b",
            "\\bsynchronized\\b", "\\bpackage\\b", "\\bprotected\\b", "\\bwhile \\(true\\)", "\\bSystem\\.(?!arraycopy)",
            "\\bThread\\b", "\\bRandom\\b", "\\bstatic \\{");
    private static final int LONGEST_METHOD = 60;
    private static final int DEEPEST_CALLS = 8;
    private static final Path PROGRAM = Path.of("src/main/java/StereoForms.java");

    public static void main(String[] args) throws IOException {
        face();
        constants();
        members(StereoForms.class);
        classes();
        text();
        depth();
        Check.end();
    }

    private static void face() {
        Check.part("the face");
        Set<String> seen = new TreeSet<>();
        for (Field field : StereoForms.class.getDeclaredFields()) {
            if (!Modifier.isPrivate(field.getModifiers())) {
                seen.add(field.getType() + " " + field.getName());
                Check.due(field + " is public, static and final", modifiersOf(field), "public static final");
            }
        }
        for (Method method : StereoForms.class.getDeclaredMethods()) {
            if (!Modifier.isPrivate(method.getModifiers())) {
                String whole = method.toString();
                seen.add(method.getReturnType() + " " + whole.substring(whole.indexOf("StereoForms.") + 12));
                Check.due(method + " is public", modifiersOf(method), "public");
            }
        }
        Check.due("members", seen.toString(), new TreeSet<>(FACE).toString());
        Check.due("constructors", StereoForms.class.getDeclaredConstructors().length, 1);
        Check.due("public constructors", StereoForms.class.getConstructors().length, 1);
        Check.due("the class", Modifier.toString(StereoForms.class.getModifiers()), "public final");
    }

    private static void constants() {
        Check.part("the constants");
        Check.due("BAD", StereoForms.BAD, -1);
        Check.due("FULL", StereoForms.FULL, -2);
        Check.due("VALENCE", StereoForms.VALENCE, -3);
    }

    private static void classes() {
        Check.part("rules 1, 2 and 11");
        Class<?>[] inside = StereoForms.class.getDeclaredClasses();
        Check.due("at most twelve classes", inside.length < 12, true);
        for (Class<?> one : inside) {
            Check.due(one + " is static", Modifier.isStatic(one.getModifiers()), true);
            Check.due(one + " is not public", Modifier.isPublic(one.getModifiers()), false);
            members(one);
        }
    }

    private static void members(Class<?> one) {
        Check.part("rules 1, 5 and 11");
        int fields = 0;
        for (Field field : one.getDeclaredFields()) {
            boolean isStatic = Modifier.isStatic(field.getModifiers());
            fields += isStatic ? 0 : 1;
            Check.due(field + " is final if static", !isStatic || Modifier.isFinal(field.getModifiers()), true);
        }
        Check.due(one + " has at most twenty fields", fields <= 20, true);
        for (Method method : one.getDeclaredMethods()) {
            Check.due(method + " has at most seven parameters", method.getParameterCount() <= 7, true);
            Check.due(method + " has a name of its own", Modifier.isPublic(method.getModifiers()) || !isOfFace(method), true);
        }
    }

    private static boolean isOfFace(Method method) {
        for (String member : FACE) {
            if (member.contains(" " + method.getName() + "(")) {
                return true;
            }
        }
        return false;
    }

    private static void text() throws IOException {
        Check.part("the program's text");
        String program = Files.readString(PROGRAM);
        String code = program.replaceAll("(?s)/\\*.*?\\*/", "").replaceAll("//.*", "");
        for (String ruledOut : RULED_OUT) {
            Check.due(ruledOut, Pattern.compile(ruledOut).matcher(code).find(), false);
        }
        Check.due("imports", code.replaceAll("(?m)^(?!import ).*\\R?", "").strip(), "import java.util.Arrays;");
        for (String body : code.split("\\R\\s*\\R")) {
            int lines = body.split("\\R").length;
            Check.due("lines without a gap: " + body.strip().split("\\R")[0], lines <= LONGEST_METHOD, true);
        }
    }

    private static void depth() throws IOException {
        Check.part("rule 11");
        CallGraph graph = CallGraph.of(PROGRAM);
        Check.due("all methods of the face are read", graph.methods() > FACE.size() - 3, true);
        Check.due("calls go " + graph.depth() + " deep", graph.depth() <= DEEPEST_CALLS, true);
    }

    private static String modifiersOf(Member member) {
        return Modifier.toString(member.getModifiers());
    }
}
