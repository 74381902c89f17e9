import java.io.IOException;
import java.lang.reflect.Field;
import java.lang.reflect.Method;
import java.lang.reflect.Modifier;
import java.nio.file.Files;
import java.nio.file.Path;
import java.util.Set;
import java.util.TreeSet;
import java.util.regex.Matcher;
import java.util.regex.Pattern;

/** The document's face, and the rules of LANGUAGE.md that names, words and lengths tell. */
public final class FaceTest {
    private static final String[] WORDS = {"throw", "throws", "try", "catch", "finally", "synchronized", "assert",
        "import java\\.(?!util\\.Arrays;)", "->", "::", "\\bvar\\b", "\\.equals\\(", "hashCode", "toString", "Exact",
        "volatile", "transient", "native", "System\\.(?!arraycopy)", "Thread", "Random", "\" \\+", "\\+ \""};

    public static void main(String[] args) throws IOException {
        Class<?> face = LeansAgainstReason.class;
        Due.is("public final", face.getModifiers() & (Modifier.PUBLIC | Modifier.FINAL),
            Modifier.PUBLIC | Modifier.FINAL);
        Due.is("one constructor", face.getDeclaredConstructors().length, 1);
        String doc = Files.readString(Path.of("../shared/DOC.md"));
        Set<String> names = methods(face, doc);
        insides(face, names);
        words(Files.readString(Path.of("src/main/java/LeansAgainstReason.java")));
        Due.end("FaceTest");
    }

    private static Set<String> methods(Class<?> face, String doc) {
        Set<String> due = new TreeSet<>();
        Set<String> names = new TreeSet<>();
        Matcher m = Pattern.compile("public (int|long) (\\w+)\\(([^)]*)\\);").matcher(doc);
        while (m.find()) {
            int parameters = m.group(3).isEmpty() ? 0 : m.group(3).split(",").length;
            due.add(m.group(1) + " " + m.group(2) + " " + parameters);
            names.add(m.group(2));
        }
        Due.is("methods of the document", due.size(), 41);
        Set<String> got = new TreeSet<>();
        for (Method method : face.getDeclaredMethods()) {
            boolean open = !Modifier.isPrivate(method.getModifiers());
            if (open) {
                got.add(method.getReturnType() + " " + method.getName() + " " + method.getParameterCount());
                Due.is("public " + method, method.getModifiers(), Modifier.PUBLIC);
                for (Class<?> type : method.getParameterTypes()) {
                    Due.is("int parameters of " + method, type == int.class ? 1 : 0, 1);
                }
            } else {
                Due.is("a name of its own: " + method, names.contains(method.getName()) ? 1 : 0, 0);
            }
        }
        Due.is("the face " + got, got.equals(due) ? 1 : 0, 1);
        return names;
    }

    private static void insides(Class<?> face, Set<String> names) {
        Due.is("classes inside", face.getDeclaredClasses().length <= 11 ? 1 : 0, 1);
        fields(face);
        for (Class<?> inside : face.getDeclaredClasses()) {
            int modifiers = inside.getModifiers();
            Due.is("static, not public: " + inside,
                Modifier.isStatic(modifiers) && !Modifier.isPublic(modifiers) ? 1 : 0, 1);
            fields(inside);
            for (Method method : inside.getDeclaredMethods()) {
                Due.is("a name of its own: " + method, names.contains(method.getName()) ? 1 : 0, 0);
                Due.is("parameters of " + method, method.getParameterCount() <= 7 ? 1 : 0, 1);
            }
        }
    }

    private static void fields(Class<?> type) {
        int kept = 0;
        for (Field field : type.getDeclaredFields()) {
            if (Modifier.isStatic(field.getModifiers())) {
                Due.is("a constant: " + field, Modifier.isFinal(field.getModifiers()) ? 1 : 0, 1);
            } else {
                kept++;
            }
        }
        Due.is("fields of " + type, kept <= 20 ? 1 : 0, 1);
    }

    private static void words(String source) {
        String code = source.replaceAll("(?s)/\\*.*?\\*/", "").replaceAll("//[^\n]*", "");
        for (String word : WORDS) {
            String pattern = word.matches("[a-z]+") ? "\\b" + word + "\\b" : word;
            Due.is("none of " + word, Pattern.compile(pattern).matcher(code).find() ? 1 : 0, 0);
        }
        Due.is("nothing is made but rows and what holds them", Pattern.compile("\\bnew (?!int\\[|Mind|Rack|Letters)")
            .matcher(code).find() ? 1 : 0, 0);
        for (int i = 0; i < source.length(); i++) {
            if (source.charAt(i) > 126) {
                Due.is("plain letters at " + i, source.charAt(i), ' ');
            }
        }
        int lines = 0;
        for (String line : source.split("\n")) {
            boolean starts = line.matches(" {4,8}(public|private|static|boolean|int|long|void|Rack)\\b.*\\{");
            lines = starts ? 1 : lines + 1;
            Due.is("length of a method at " + line, line.matches(" {4,8}\\}") && lines > 60 ? 1 : 0, 0);
        }
    }
}
