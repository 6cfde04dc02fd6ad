import java.lang.reflect.Constructor;
import java.lang.reflect.Field;
import java.lang.reflect.Method;
import java.lang.reflect.Modifier;
import java.nio.file.Files;
import java.nio.file.Path;
import java.util.ArrayList;
import java.util.List;
import java.util.Set;
import java.util.TreeSet;
import java.util.regex.Matcher;
import java.util.regex.Pattern;

/** Rules of LANGUAGE.md, as far as the source and the compiled class show them. */
public final class RulesTest {
    private static final Path SOURCE = Path.of("src/main/java/MapsOfNothing.java");
    private static final String[] FORBIDDEN = {"throw", "throws", "try", "catch", "synchronized", "assert", "package", "equals",
        "hashCode", "toString", "protected", "var", "record"};
    private static final String[] FACE = {"back", "careless", "count", "drawn", "end", "feed", "fresh", "hidden", "image",
        "land", "law", "laying", "layings", "least", "may", "news", "next", "note", "notes", "odds", "plan", "quarrel",
        "rows", "seed", "sees", "square", "stands", "then", "trust", "walk", "worst"};

    public static void main(String[] args) throws Exception {
        String text = Files.readString(SOURCE);
        String code = text.replaceAll("(?s)/\\*.*?\\*/", " ").replaceAll("//[^\n]*", " ").replaceAll("\"[^\"\n]*\"", "\"\"");
        words(text, code);
        face();
        inside();
        methods(code);
        Check.finish("RulesTest");
    }

    private static void words(String text, String code) {
        for (String word : FORBIDDEN) {
            Check.that("no '" + word + "'", !Pattern.compile("\\b" + word + "\\b").matcher(code).find());
        }
        Check.that("no lambda", !code.contains("->"));
        Check.that("no method reference", !code.contains("::"));
        Check.that("no annotation", !code.contains("@"));
        Check.that("plain signs alone", text.chars().allMatch(c -> c == '\n' || c >= 32 && c < 127));
        Matcher imports = Pattern.compile("import ([^;]*);").matcher(code);
        while (imports.find()) {
            Check.that("import " + imports.group(1), imports.group(1).equals("java.util.Arrays"));
        }
        Matcher library = Pattern.compile("\\b(Math|Long|Integer|Arrays|System)\\.(\\w+)").matcher(code);
        while (library.find()) {
            String name = library.group(1) + "." + library.group(2);
            Check.that("library " + name, Set.of("Math.max", "Math.min", "Math.abs", "Math.floorDiv", "Long.bitCount",
                "Integer.bitCount", "Arrays.fill", "System.arraycopy").contains(name));
        }
    }

    private static void face() {
        Class<?> c = MapsOfNothing.class;
        Check.that("public and final", Modifier.isPublic(c.getModifiers()) && Modifier.isFinal(c.getModifiers()));
        Constructor<?>[] constructors = c.getDeclaredConstructors();
        Check.that("one constructor", constructors.length == 1 && Modifier.isPublic(constructors[0].getModifiers()));
        Set<String> names = new TreeSet<>();
        for (Method m : c.getDeclaredMethods()) {
            if (!m.isSynthetic()) {
                Check.that("method " + m, Modifier.isPublic(m.getModifiers()) || Modifier.isPrivate(m.getModifiers()));
                Check.that("one method of a name " + m, names.add(m.getName()));
                Check.due("public " + m, Modifier.isPublic(m.getModifiers()) ? 1 : 0,
                    List.of(FACE).contains(m.getName()) ? 1 : 0);
            }
        }
        Check.that("the whole face", names.containsAll(List.of(FACE)));
        for (Field f : c.getDeclaredFields()) {
            Check.that("field " + f, Modifier.isPrivate(f.getModifiers()) || f.getName().equals("NONE"));
        }
    }

    private static void inside() {
        List<Class<?>> all = new ArrayList<>(List.of(MapsOfNothing.class.getDeclaredClasses()));
        Check.that("classes " + all.size(), all.size() <= 12);
        all.add(MapsOfNothing.class);
        for (Class<?> c : all) {
            Check.that("static " + c, c == MapsOfNothing.class || Modifier.isStatic(c.getModifiers()));
            int fields = 0;
            for (Field f : c.getDeclaredFields()) {
                boolean isStatic = Modifier.isStatic(f.getModifiers());
                Check.that("static fields are final " + f, !isStatic || Modifier.isFinal(f.getModifiers()));
                fields += isStatic ? 0 : 1;
            }
            Check.that("fields of " + c + ": " + fields, fields <= 20);
            for (Method m : c.getDeclaredMethods()) {
                Check.that("parameters of " + m, m.getParameterCount() <= 7);
                Check.that("name of " + m, c == MapsOfNothing.class || !List.of(FACE).contains(m.getName()));
            }
        }
    }

    /** A method ends with a brace as far in as it began. */
    private static void methods(String code) {
        String[] lines = code.split("\n");
        for (int i = 0; i < lines.length; i++) {
            Matcher head = Pattern.compile("^(    |        )\\w[\\w\\[\\] ]*\\(.*\\) \\{$").matcher(lines[i]);
            if (head.find()) {
                int to = i;
                while (!lines[to].equals(head.group(1) + "}")) {
                    to++;
                }
                Check.that("length of " + lines[i].trim() + " " + (to - i), to - i <= 60);
            }
        }
    }
}
