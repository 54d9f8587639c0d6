import java.io.IOException;
import java.nio.file.Files;
import java.nio.file.Path;
import java.util.LinkedHashMap;
import java.util.Map;
import java.util.function.IntUnaryOperator;
import java.util.stream.Collectors;

/**
 * Tests of single sentences of the document. Each begins with the words that it looks at: they must stand in the
 * document's section, and in the end no word of the terms and the promises may be left that no test has named.
 */
final class Sentences {
    private static final Path DOCUMENT = Path.of("../shared/DOC.md");

    private final Map<String, StringBuilder> texts = new LinkedHashMap<>();
    private final Map<String, StringBuilder> unnamed = new LinkedHashMap<>();
    private String section = "";
    private String words = "";
    private int begun = 0;
    private int lookedHere = 1;
    private int looked = 0;
    private int wrong = 0;

    Sentences() throws IOException {
        if (Files.exists(DOCUMENT)) {
            read(Files.readString(DOCUMENT));
        } else {
            System.out.println("EdgesTest: " + DOCUMENT + " is not there: the words are not compared with it");
        }
    }

    private void read(String document) {
        for (String part : document.split("(?m)^## ")) {
            String title = part.lines().findFirst().orElse("");
            String text = part.lines().skip(1).filter(line -> !line.startsWith("Ahead of the calls"))
                .collect(Collectors.joining(" ")).replaceAll("```(text)?", " ").replaceAll("======== \\d", " ")
                .replaceAll("`[^`]*`: ", " ").replaceAll("\\s+", " ");
            String name = title.startsWith("Promise") ? title.substring(0, title.indexOf(':')) : title;
            texts.put(name, new StringBuilder(text));
            unnamed.put(name, new StringBuilder(text));
        }
    }

    /** The section whose sentences come next. */
    void of(String name) {
        section = name;
        if (!texts.isEmpty() && !texts.containsKey(name)) {
            tell("the document has no section " + name);
        }
    }

    /** The sentence that is looked at from here on: a new object for it. */
    LampWires says(String sentence) {
        closeSentence();
        words = sentence;
        lookedHere = 0;
        begun++;
        if (texts.containsKey(section)) {
            strike(texts.get(section), unnamed.get(section));
        }
        return new LampWires();
    }

    private void strike(StringBuilder text, StringBuilder left) {
        int at = text.indexOf(words);
        if (at < 0) {
            tell("these words do not stand in the document");
        }
        for (; at >= 0; at = text.indexOf(words, at + 1)) {
            for (int i = at; i < at + words.length(); i++) {
                left.setCharAt(i, ' ');
            }
        }
    }

    private void closeSentence() {
        if (lookedHere == 0) {
            tell("nothing was looked at");
        }
    }

    void due(long got, long want) {
        looked++;
        lookedHere++;
        if (got != want) {
            tell("answered " + got + ", due is " + want);
        }
    }

    /** One answer is due for each of these numbers. */
    void each(long want, IntUnaryOperator call, int... values) {
        for (int value : values) {
            looked++;
            lookedHere++;
            int got = call.applyAsInt(value);
            if (got != want) {
                tell("answered " + got + " for " + value + ", due is " + want);
            }
        }
    }

    private void tell(String what) {
        wrong++;
        String where = StackWalker.getInstance().walk(frames -> frames
            .filter(frame -> !frame.getClassName().startsWith("Sentences")).findFirst()
            .map(frame -> frame.getFileName() + ":" + frame.getLineNumber()).orElse("?"));
        System.out.println("EdgesTest: " + section + ", \"" + words + "\" (" + where + "): " + what);
    }

    void finish() {
        closeSentence();
        for (Map.Entry<String, StringBuilder> entry : unnamed.entrySet()) {
            boolean told = entry.getKey().equals("Terms") || entry.getKey().startsWith("Promise");
            String left = entry.getValue().toString().replaceAll("[^\\w]+", " ").trim();
            if (told && !left.isEmpty()) {
                wrong++;
                System.out.println("EdgesTest: " + entry.getKey() + " has words without a test: " + left);
            }
        }
        System.out.println("EdgesTest: " + begun + " sentences, " + looked + " looked at, " + wrong + " wrong");
        if (wrong > 0) {
            System.exit(1);
        }
    }

    /** A turn by its wires: '.' free, '+' high, '-' low. */
    static int turn(String wires) {
        int t = 0;
        for (int i = wires.length() - 1; i >= 0; i--) {
            t = 3 * t + ".+-".indexOf(wires.charAt(i));
        }
        return t;
    }
}
