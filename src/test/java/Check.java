import java.util.HashSet;
import java.util.Set;

/** Compares answers with those that are due, and ends the test with exit code 1 if one was not. */
final class Check {
    private final String name;
    private final Set<String> sentences = new HashSet<>();
    private String sentence = "";
    private int checks = 0;
    private int wrong = 0;

    Check(String name) {
        this.name = name;
    }

    /** The words of the document that the checks from here on are about. */
    void sentence(String words) {
        sentence = " [" + words + "]";
        sentences.add(words);
    }

    void due(String what, long got, long want) {
        checks++;
        if (got != want) {
            wrong++;
            System.out.println(name + sentence + ": " + what + " answered " + got + ", due is " + want);
        }
    }

    /** All that is told of the latest run, 0 to 7. */
    void dueTold(String what, ZRoutines z, int... want) {
        for (int i = 0; i < want.length; i++) {
            due(what + ", told(" + i + ")", z.told(i), want[i]);
        }
    }

    boolean isWrong() {
        return wrong > 0;
    }

    void finish() {
        String of = sentences.isEmpty() ? "" : " of " + sentences.size() + " sentences";
        System.out.println(name + ": " + checks + " checks" + of + ", " + wrong + " wrong");
        if (wrong > 0) {
            System.exit(1);
        }
    }
}
