import java.io.IOException;
import java.lang.reflect.Constructor;
import java.lang.reflect.Field;
import java.lang.reflect.Method;
import java.lang.reflect.Modifier;
import java.nio.file.Files;
import java.nio.file.Path;
import java.util.Set;
import java.util.TreeSet;
import java.util.regex.Matcher;
import java.util.regex.Pattern;

/** The class shows the document's face and nothing else, and its source keeps to what LANGUAGE.md lists. */
public final class FaceTest {
    private static final String[] FACE = {"algebra 3", "becomes 2", "of 2", "product 4", "form 4", "element 3", "split 4",
        "closed 3", "handles 3", "were 4", "feed 1", "surface 1", "piece 2", "pieceOf 2", "shape 2", "part 3", "rim 2",
        "match 2", "sum 3", "total 3", "alike 3", "glue 2", "cut 2", "draws 3", "odds 4 long", "plan 2", "behind 2",
        "write 1", "paper 1", "judge 3", "list 2", "put 3", "get 2 long", "image 0", "undo 0", "count 1"};
    private static final String[] CONSTANTS = {"NONE", "BAD", "STATE", "FULL", "NOT", "NO"};

    public static void main(String[] args) throws IOException {
        methods();
        fields();
        classes();
        source();
        Due.end();
    }

    private static void methods() {
        Set<String> due = new TreeSet<>();
        for (String call : FACE) {
            due.add(call);
        }
        Set<String> names = new TreeSet<>();
        for (String call : FACE) {
            names.add(call.substring(0, call.indexOf(' ')));
        }
        int found = 0;
        for (Method m : SurfaceSums.class.getDeclaredMethods()) {
            if (Modifier.isPublic(m.getModifiers())) {
                String call = m.getName() + " " + m.getParameterCount() + (m.getReturnType() == long.class ? " long" : "");
                Due.is("face: " + call, due.contains(call) ? 1 : 0, 1);
                for (Class<?> told : m.getParameterTypes()) {
                    Due.is("ints alone are told to " + call, told == int.class ? 1 : 0, 1);
                }
                Due.is("int or long is answered by " + call, m.getReturnType() == int.class || call.endsWith("long") ? 1 : 0, 1);
                found++;
            } else {
                Due.is("private: " + m.getName(), Modifier.isPrivate(m.getModifiers()) ? 1 : 0, 1);
                Due.is("own name: " + m.getName(), names.contains(m.getName()) ? 1 : 0, 0);
            }
        }
        Due.is("calls of the face", found, FACE.length);
        Constructor<?>[] made = SurfaceSums.class.getDeclaredConstructors();
        Due.is("constructors", made.length * 10 + made[0].getParameterCount(), 10);
        Due.is("final", Modifier.isFinal(SurfaceSums.class.getModifiers()) ? 1 : 0, 1);
    }

    private static void fields() {
        Set<String> due = Set.of(CONSTANTS);
        int open = 0;
        for (Field f : SurfaceSums.class.getDeclaredFields()) {
            if (Modifier.isPublic(f.getModifiers())) {
                Due.is("constant " + f.getName(), due.contains(f.getName()) && Modifier.isFinal(f.getModifiers()) ? 1 : 0, 1);
                open++;
            } else {
                Due.is("private " + f.getName(), Modifier.isPrivate(f.getModifiers()) ? 1 : 0, 1);
            }
        }
        Due.is("constants", open, CONSTANTS.length);
        Due.is("NONE", SurfaceSums.NONE, -1);
        Due.is("BAD", SurfaceSums.BAD, -2);
        Due.is("STATE", SurfaceSums.STATE, -3);
        Due.is("FULL", SurfaceSums.FULL, -4);
        Due.is("NOT", SurfaceSums.NOT, -5);
        Due.is("NO", SurfaceSums.NO, Long.MIN_VALUE);
    }

    private static void classes() {
        Class<?>[] inside = SurfaceSums.class.getDeclaredClasses();
        Due.is("at most twelve classes", inside.length < 12 ? 1 : 0, 1);
        Set<String> face = new TreeSet<>();
        for (String call : FACE) {
            face.add(call.substring(0, call.indexOf(' ')));
        }
        for (Class<?> c : inside) {
            int modifiers = c.getModifiers();
            Due.is(c.getName(), Modifier.isStatic(modifiers) && !Modifier.isPublic(modifiers) ? 1 : 0, 1);
            Due.is(c.getName() + ": at most twenty fields", c.getDeclaredFields().length <= 20 ? 1 : 0, 1);
            for (Method m : c.getDeclaredMethods()) {
                Due.is(c.getName() + "." + m.getName() + ": own name", face.contains(m.getName()) ? 1 : 0, 0);
                Due.is(c.getName() + "." + m.getName() + ": not public", Modifier.isPublic(m.getModifiers()) ? 1 : 0, 0);
                Due.is(c.getName() + "." + m.getName() + ": at most seven told", m.getParameterCount() <= 7 ? 1 : 0, 1);
            }
        }
    }

    private static void source() throws IOException {
        String text = Files.readString(Path.of("src/main/java/SurfaceSums.java"));
        text = text.replaceAll("(?s)/\\*.*?\\*/", " ").replaceAll("//[^\n]*", " ");
        String[] ruledOut = {"throw", "try", "catch", "synchronized", "assert", "import", "package", "protected", "->", "::",
            "Exact\\b", "System\\.(?!arraycopy)", "Math\\.(?!max|min)", "Random", "Thread", "Object\\b", "String\\b", "double",
            "float", "equals", "hashCode", "toString"};
        for (String word : ruledOut) {
            Matcher m = Pattern.compile(Character.isLetter(word.charAt(0)) ? "\\b" + word : word).matcher(text);
            Due.is("ruled out: " + word, m.find() ? 1 : 0, 0);
        }
        // Objects and arrays are made in fields' initialisers and in constructors alone.
        Matcher made = Pattern.compile("(?m)^.*\\bnew\\b.*$").matcher(text);
        while (made.find()) {
            boolean field = made.group().matches("\\s+private (final )?\\S+ \\w+ = new .*");
            boolean row = made.group().matches("\\s+(algebras|surfaces)\\[i\\] = new (Algebra|Surface)\\(\\);");
            Due.is("made once: " + made.group().trim(), field || row ? 1 : 0, 1);
        }
    }
}
