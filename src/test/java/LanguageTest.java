import java.io.IOException;
import java.nio.file.Files;
import java.nio.file.Path;
import java.util.regex.Matcher;
import java.util.regex.Pattern;

/** Rules of LANGUAGE.md that a look at the text can tell: words and signs that may not stand in it. */
public final class LanguageTest {
    private static final String[] NEVER = {"import", "package", "throw", "throws", "try", "catch",
        "synchronized", "assert", "protected", "hashCode", "toString", "Exact", "double", "float",
        "Object", "System\\.(?!arraycopy\\b)\\w+", "->", "::", "Thread", "Random"};

    public static void main(String[] args) throws IOException {
        Check check = new Check("LanguageTest");
        String source = Files.readString(Path.of("src/main/java/ZRoutines.java"));
        String code = source.replaceAll("(?s)/\\*.*?\\*/", "").replaceAll("//[^\n]*", "");
        for (String word : NEVER) {
            String bounded = Character.isLetter(word.charAt(0)) ? "\\b" + word + "\\b" : word;
            check.due(word, count(bounded, code), 0);
        }
        check.due("public classes", count("\\bpublic\\s+(final\\s+)?(class|record|enum|interface)\\b", code), 1);
        check.due("inner classes that are not static", count("(?m)^    +(private )?(final )?class\\b", code), 0);
        check.due("static fields that are not final", count("\\bstatic\\s+(?!final\\b)[\\w\\[\\]]+\\s+\\w+\\s*[=;,]", code), 0);
        String calls = "(routine|first|add|clear|room|user|interrupt|give|run|told|size)";
        check.due("private methods with a public name", count("\\bprivate\\s+(static\\s+)?\\w+\\s+" + calls + "\\s*\\(", code), 0);
        check.finish();
    }

    private static int count(String pattern, String text) {
        Matcher matcher = Pattern.compile(pattern).matcher(text);
        int found = 0;
        while (matcher.find()) {
            found++;
        }
        return found;
    }
}
