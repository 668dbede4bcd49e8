import java.io.IOException;
import java.lang.reflect.Field;
import java.lang.reflect.Method;
import java.lang.reflect.Modifier;
import java.nio.file.Files;
import java.nio.file.Path;
import java.util.Set;
import java.util.TreeSet;
import java.util.regex.Matcher;
import java.util.regex.Pattern;
import java.util.stream.Stream;

/** Rules of LANGUAGE.md that the text and the shape of the classes can tell. */
public final class LanguageTest {
    private static final String[] NEVER = {"import", "package", "throw", "throws", "try", "catch",
        "synchronized", "assert", "protected", "hashCode", "toString", "Exact", "double", "float",
        "Object", "System\\.(?!arraycopy\\b)\\w+", "->", "::", "Thread", "Random"};

    public static void main(String[] args) throws IOException {
        Check check = new Check("LanguageTest");
        checkText(check);
        checkFiles(check);
        checkClasses(check);
        check.finish();
    }

    private static void checkText(Check check) throws IOException {
        String source = Files.readString(Path.of("src/main/java/ZRoutines.java"));
        String code = source.replaceAll("(?s)/\\*.*?\\*/", "").replaceAll("//[^\n]*", "");
        for (String word : NEVER) {
            String bounded = Character.isLetter(word.charAt(0)) ? "\\b" + word + "\\b" : word;
            check.due(word, count(bounded, code), 0);
        }
        check.due("public classes", count("\\bpublic\\s+(final\\s+)?(class|record|enum|interface)\\b", code), 1);
        check.due("inner classes that are not static", count("(?m)^    +(private )?(final )?class\\b", code), 0);
        check.due("static fields that are not final", count("\\bstatic\\s+(?!final\\b)[\\w\\[\\]]+\\s+\\w+\\s*[=;,]", code), 0);
    }

    private static void checkFiles(Check check) throws IOException {
        try (Stream<Path> files = Files.walk(Path.of("src/main"))) {
            check.due("files of the program", files.filter(Files::isRegularFile).count(), 1);
        }
    }

    private static void checkClasses(Check check) {
        Class<?>[] inside = ZRoutines.class.getDeclaredClasses();
        check.due("classes above twelve", Math.max(0, inside.length + 1 - 12), 0);
        checkClass(check, ZRoutines.class);
        for (Class<?> c : inside) {
            int modifiers = c.getModifiers();
            check.due(c.getName() + " is static", Modifier.isStatic(modifiers) ? 1 : 0, 1);
            check.due(c.getName() + " is public", Modifier.isPublic(modifiers) ? 1 : 0, 0);
            check.due(c.getName() + " has classes inside", c.getDeclaredClasses().length, 0);
            checkClass(check, c);
        }
    }

    private static void checkClass(Check check, Class<?> c) {
        int fields = 0;
        for (Field f : c.getDeclaredFields()) {
            boolean isStatic = Modifier.isStatic(f.getModifiers());
            boolean isLoose = isStatic && !Modifier.isFinal(f.getModifiers());
            check.due(c.getName() + "." + f.getName() + " is static and not final", isLoose ? 1 : 0, 0);
            fields += isStatic ? 0 : 1;
        }
        check.due(c.getName() + ": fields above twenty", Math.max(0, fields - 20), 0);
        Set<String> face = publicNames();
        for (Method m : c.getDeclaredMethods()) {
            String name = c.getName() + "." + m.getName();
            check.due(name + ": parameters above seven", Math.max(0, m.getParameterCount() - 7), 0);
            boolean isHidden = !Modifier.isPublic(m.getModifiers());
            check.due(name + " bears a public name", isHidden && face.contains(m.getName()) ? 1 : 0, 0);
        }
    }

    private static Set<String> publicNames() {
        Set<String> names = new TreeSet<>();
        for (Method m : ZRoutines.class.getDeclaredMethods()) {
            if (Modifier.isPublic(m.getModifiers())) {
                names.add(m.getName());
            }
        }
        return names;
    }

    private static int count(String pattern, String text) {
        Matcher matcher = Pattern.compile(pattern).matcher(text);
        int found = 0;
        while (matcher.find()) {
            found++;
        }
        return found;
    }
}
