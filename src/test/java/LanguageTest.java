import java.io.IOException;
import java.lang.reflect.Constructor;
import java.lang.reflect.Field;
import java.lang.reflect.Method;
import java.lang.reflect.Modifier;
import java.nio.file.Files;
import java.nio.file.Path;
import java.util.Arrays;
import java.util.HashSet;
import java.util.List;
import java.util.Set;
import java.util.TreeSet;
import java.util.regex.Matcher;
import java.util.regex.Pattern;

/** The rules of LANGUAGE.md that can be read off the source and the class, and the document's face. */
public final class LanguageTest {
    private static final Check C = new Check("LanguageTest");
    private static final String FACE = """
        wires(int) supply(int) lamp(int,int,int) lampOf(int,int) hurt(int,int) between(int,int) glow(int,int)
        turns(int) alone(int) astray(int) frame(int) frameTurn(int,int) sets() shown(int) level(int,int) plan(int)
        light(int,int) uneven(int) feed(long) end(int) program() fault() line(int,int) round(int) shows(int,int)
        at(int) seen(int,int) likely(int) tells(int) would(int,int,int) sheet(int,int,int) lay(int,int,int)
        levels(int,int,int) count(int)""";

    /** The source without comments and without what stands in texts and signs. */
    private static String bare(String source) {
        return source.replaceAll("(?s)/\\*.*?\\*/", " ").replaceAll("//[^\n]*", " ")
            .replaceAll("\"[^\"\n]*\"", "\"\"").replaceAll("'[^'\n]*'", "' '");
    }

    private static void words(String source) {
        List<String> out = List.of("throw", "try", "catch", "finally", "synchronized", "assert", "native", "volatile",
            "strictfp", "goto", "protected", "package", "transient", "var", "Object", "Thread", "Random", "Class");
        for (String word : out) {
            C.holds("no '" + word + "'", !Pattern.compile("\\b" + word + "\\b").matcher(source).find());
        }
        C.holds("no lambda", !source.contains("->"));
        C.holds("no method reference", !source.contains("::"));
        Matcher imports = Pattern.compile("import\\s+([\\w.*]+)").matcher(source);
        while (imports.find()) {
            C.holds("import " + imports.group(1), imports.group(1).equals("java.util.Arrays"));
        }
    }

    private static void sizes(String source) {
        int classes = source.split("\\bclass\\s+\\w+").length - 1;
        C.holds("twelve classes at most, not " + classes, classes <= 12);
        String name = "";
        int opened = -1;
        int depth = 0;
        int number = 0;
        for (String line : source.split("\n")) {
            number++;
            Matcher head = Pattern.compile("^ +(?:[\\w\\[\\]]+ )+(\\w+)\\([^;]*\\) \\{$").matcher(line);
            if (opened < 0 && head.find() && !line.contains(" new ")) {
                name = head.group(1);
                opened = number;
                depth = 0;
                C.holds(name + " takes seven at most", line.split(",").length <= 7);
            }
            depth += line.replaceAll("[^{]", "").length() - line.replaceAll("[^}]", "").length();
            if (opened > 0 && depth == 0) {
                C.holds(name + " has sixty lines at most", number - opened < 60);
                opened = -1;
            }
        }
    }

    private static String told(Method m) {
        return m.getName() + Arrays.toString(m.getParameterTypes()).replace("[", "(").replace("]", ")").replace(", ", ",");
    }

    private static void face() throws ReflectiveOperationException {
        Class<?> it = LampWires.class;
        C.holds("final and public", Modifier.isFinal(it.getModifiers()) && Modifier.isPublic(it.getModifiers()));
        Set<String> due = new TreeSet<>(List.of(FACE.trim().split("\\s+")));
        C.due("as many as the document has", due.size(), 34);
        Set<String> found = new TreeSet<>();
        Set<String> names = new HashSet<>();
        for (Method m : it.getDeclaredMethods()) {
            if (!Modifier.isPrivate(m.getModifiers())) {
                found.add(told(m));
                names.add(m.getName());
                C.holds(m.getName() + " is public, answers int", Modifier.isPublic(m.getModifiers()) && m.getReturnType() == int.class);
            }
        }
        C.holds("the document's face: " + found, found.equals(due));
        for (Method m : it.getDeclaredMethods()) {
            C.holds(m.getName() + " is no public name", !Modifier.isPrivate(m.getModifiers()) || !names.contains(m.getName()));
        }
        Set<String> constants = new TreeSet<>();
        for (Field f : it.getDeclaredFields()) {
            boolean isStatic = Modifier.isStatic(f.getModifiers());
            C.holds(f.getName() + " is final, if static", !isStatic || Modifier.isFinal(f.getModifiers()));
            if (!Modifier.isPrivate(f.getModifiers())) {
                constants.add(f.getName());
                C.holds(f.getName() + " is a public constant", isStatic && Modifier.isPublic(f.getModifiers()) && f.getType() == int.class);
            }
        }
        C.holds("the document's constants: " + constants, constants.equals(Set.of("BAD", "STATE", "FULL", "NONE")));
        for (Constructor<?> made : it.getDeclaredConstructors()) {
            C.holds("one public constructor", Modifier.isPublic(made.getModifiers()) && made.getParameterCount() == 0);
        }
        for (Class<?> inside : it.getDeclaredClasses()) {
            inner(inside, names);
        }
    }

    private static void inner(Class<?> inside, Set<String> names) {
        String name = inside.getSimpleName();
        C.holds(name + " is static", Modifier.isStatic(inside.getModifiers()));
        C.holds(name + " is not public", !Modifier.isPublic(inside.getModifiers()));
        int own = 0;
        for (Field f : inside.getDeclaredFields()) {
            boolean isStatic = Modifier.isStatic(f.getModifiers());
            own += isStatic ? 0 : 1;
            C.holds(name + "." + f.getName() + " is final, if static", !isStatic || Modifier.isFinal(f.getModifiers()));
        }
        C.holds(name + " has some twenty fields", own <= 20);
        for (Method m : inside.getDeclaredMethods()) {
            C.holds(name + "." + m.getName() + " is no public name", !names.contains(m.getName()));
        }
    }

    public static void main(String[] args) throws IOException, ReflectiveOperationException {
        String source = Files.readString(Path.of("src/main/java/LampWires.java"));
        C.holds("signs 1 to 127 alone", source.chars().allMatch(c -> c > 0 && c < 128));
        words(bare(source));
        sizes(bare(source));
        face();
        C.finish();
    }
}
