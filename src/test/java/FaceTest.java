import java.io.IOException;
import java.lang.reflect.Constructor;
import java.lang.reflect.Field;
import java.lang.reflect.Method;
import java.lang.reflect.Modifier;
import java.nio.file.Files;
import java.nio.file.Path;
import java.util.HashSet;
import java.util.List;
import java.util.Set;
import java.util.TreeSet;
import java.util.regex.Matcher;
import java.util.regex.Pattern;

/** The public face, the constants, and those rules of the language that can be seen from outside. */
public final class FaceTest {
    private static final String SOURCE = "src/main/java/CallBoard.java";
    private static final List<String> FACE = List.of(
        "int parent(int,int)", "int trait(int,int)", "int has(int,int)", "int flag(int)", "int close()",
        "boolean below(int,int)", "int sample(int,int)", "int of(int,int)", "int samples()",
        "int function(int)", "int handler(int,int,int,boolean)", "int place(int,int,int)",
        "int test(int,int,int,int)", "int lay(int)", "int lift(int)", "int freeze(int,boolean)",
        "int about(int,int)", "boolean dominates(int,int)", "int order(int,int)", "int arg(int,int)",
        "int call(int)", "long value()", "int failure()", "int step(int)", "int counter(int)",
        "int applicable(int,int)", "int most(int)", "int explain(int)", "int where()",
        "int count(int,int)", "int covered(int)", "long hole(int,int)", "long doubt(int,int,int)");
    private static final Due due = new Due();

    public static void main(String[] args) throws IOException {
        constants();
        methods();
        fields();
        nestedClasses();
        source();
        due.end();
    }

    private static void constants() {
        due.is("NUMBER", CallBoard.NUMBER, -2);
        due.is("STATE", CallBoard.STATE, -3);
        due.is("FULL", CallBoard.FULL, -4);
        due.is("LOOP", CallBoard.LOOP, -5);
        due.is("ABSTRACT", CallBoard.ABSTRACT, -6);
    }

    private static void methods() {
        Set<String> found = new TreeSet<>();
        Set<String> publicNames = new HashSet<>();
        Set<String> privateNames = new HashSet<>();
        for (Method m : CallBoard.class.getDeclaredMethods()) {
            if (Modifier.isPublic(m.getModifiers())) {
                found.add(faceOf(m));
                publicNames.add(m.getName());
            } else {
                due.is(m.getName() + " is private", Modifier.isPrivate(m.getModifiers()), true);
                privateNames.add(m.getName());
            }
            due.is("parameters of " + m.getName(), m.getParameterCount() <= 7, true);
        }
        due.is("the face", found.toString(), new TreeSet<>(FACE).toString());
        privateNames.retainAll(publicNames);
        due.is("private methods with public names", privateNames.toString(), "[]");
        Constructor<?>[] made = CallBoard.class.getDeclaredConstructors();
        due.is("constructors", made.length, 1);
        due.is("parameters of the constructor", made[0].getParameterCount(), 0);
        due.is("the constructor is public", Modifier.isPublic(made[0].getModifiers()), true);
        due.is("the class is public and final",
            CallBoard.class.getModifiers() & (Modifier.PUBLIC | Modifier.FINAL), Modifier.PUBLIC | Modifier.FINAL);
    }

    private static String faceOf(Method m) {
        StringBuilder face = new StringBuilder();
        face.append(m.getReturnType().getName()).append(' ').append(m.getName()).append('(');
        String comma = "";
        for (Class<?> type : m.getParameterTypes()) {
            face.append(comma).append(type.getName());
            comma = ",";
        }
        return face.append(')').toString();
    }

    private static void fields() {
        Set<String> found = new TreeSet<>();
        for (Field f : CallBoard.class.getDeclaredFields()) {
            if (!Modifier.isPrivate(f.getModifiers())) {
                found.add(f.getName());
            }
            if (Modifier.isStatic(f.getModifiers())) {
                due.is(f.getName() + " is final", Modifier.isFinal(f.getModifiers()), true);
            }
        }
        due.is("public fields", found.toString(), "[ABSTRACT, FULL, LOOP, NUMBER, STATE]");
    }

    private static void nestedClasses() {
        Class<?>[] nested = CallBoard.class.getDeclaredClasses();
        due.is("at most twelve classes", nested.length + 1 <= 12, true);
        for (Class<?> c : nested) {
            due.is(c.getName() + " is static", Modifier.isStatic(c.getModifiers()), true);
            int own = 0;
            for (Field f : c.getDeclaredFields()) {
                own += Modifier.isStatic(f.getModifiers()) ? 0 : 1;
            }
            due.is("fields of " + c.getName(), own <= 20, true);
        }
    }

    private static void source() throws IOException {
        String text = Files.readString(Path.of(SOURCE)).replaceAll("(?s)/\\*.*?\\*/", "").replaceAll("//.*", "");
        for (String word : List.of("throw", "throws", "try", "catch", "synchronized", "assert", "protected")) {
            due.is("uses of " + word, uses(text, "\\b" + word + "\\b"), 0);
        }
        due.is("package lines", uses(text, "(?m)^\\s*package\\b"), 0);
        due.is("lambdas", uses(text, "->"), uses(text, "(?m)^\\s*(case\\b.*|default) ->"));
        due.is("method references", uses(text, "::"), 0);
        due.is("functions whose name ends in Exact", uses(text, "Exact\\s*\\("), 0);
        due.is("static initialiser blocks", uses(text, "\\bstatic\\s*\\{"), 0);
        due.is("imports", uses(text, "\\bimport\\b"), uses(text, "import java\\.util\\.(Arrays|ArrayList|List|Iterator);"));
        due.is("functions of Arrays", uses(text, "\\bArrays\\.\\w"), uses(text, "\\bArrays\\.(copyOf|copyOfRange|fill)\\("));
    }

    private static int uses(String text, String pattern) {
        Matcher matcher = Pattern.compile(pattern).matcher(text);
        int found = 0;
        while (matcher.find()) {
            found++;
        }
        return found;
    }
}
