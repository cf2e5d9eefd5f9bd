import java.lang.reflect.Constructor;
import java.lang.reflect.Field;
import java.lang.reflect.Method;
import java.lang.reflect.Modifier;
import java.nio.charset.StandardCharsets;
import java.nio.file.Files;
import java.nio.file.Path;
import java.util.ArrayList;
import java.util.List;
import java.util.Set;
import java.util.TreeSet;
import java.util.regex.Matcher;
import java.util.regex.Pattern;

/** The rules of LANGUAGE.md that the source's text and the compiled class can show; run from the project's root. */
public final class LanguageTest {
    private static final String[] FACE = {
        "int type(int,int)", "int wipe(int)", "int undo(int)", "int fault(int)", "int post(int,int)",
        "int person(int,int)", "int event(int,int,int)", "int back()", "int read(int)", "int at(int,int,int)",
        "int stood(int,int,int)", "int changes(int)", "int forgotten()", "int longest(int)", "int all()", "int busy()",
        "int quiet()", "int stroll(int,int)", "int dust(int,int)", "int hush(int,int)", "int spare(int)",
        "int seen(int,int,int)", "int forget()", "int never()", "int was(int,int)", "int ask(int)",
        "long chance(int,int,int)", "int decades(int,int,int)", "int sheet(int,int,int)", "int lose(int)",
        "int lay(int,int,int,int)", "int get(int,int,int)", "int copy(int,int,int,int,int)", "int write(int,int)",
        "int count(int)", "long digest()"};
    // Rules 2, 6 and 13; 4 where a name of the library that is not listed comes easily.
    private static final String[] WORDS = {"throw", "throws", "try", "catch", "finally", "synchronized", "assert",
        "volatile", "transient", "native", "protected", "System.out", "System.err", "System.exit", "System.currentTimeMillis",
        "System.nanoTime", "Random", "Thread", "Runnable", "Exception", "Error", "Object", "HashMap", "Map", "Set",
        "Arrays.sort", "Arrays.asList", "Arrays.equals", "addExact", "multiplyExact", "toIntExact", "hashCode", "equals",
        "toString", "float", "double", "extends", "var", "record", "sealed", "permits", "yield"};

    private static final Check check = new Check();

    public static void main(String[] args) throws Exception {
        String source = Files.readString(Path.of("src/main/java/SneezeGuard.java"), StandardCharsets.ISO_8859_1);
        face();
        classesInside();
        words(bare(source));
        places(source);
        methods(bare(source));
        check.end("LanguageTest");
    }

    /** Rules 1 and 5. */
    private static void face() {
        Class<?> c = SneezeGuard.class;
        check.holds("public final", Modifier.isPublic(c.getModifiers()) && Modifier.isFinal(c.getModifiers()));
        check.holds("no package", c.getPackageName().isEmpty());
        Set<String> shown = new TreeSet<>();
        Set<String> names = new TreeSet<>();
        for (Method m : c.getDeclaredMethods()) {
            if (Modifier.isPublic(m.getModifiers())) {
                shown.add(told(m));
                names.add(m.getName());
            }
        }
        check.holds("the methods of the face: " + shown, shown.equals(new TreeSet<>(List.of(FACE))));
        for (Method m : c.getDeclaredMethods()) {
            if (Modifier.isPublic(m.getModifiers())) continue;
            check.holds("1 private: " + m, Modifier.isPrivate(m.getModifiers()));
            check.holds("1 no public one's name: " + m, !names.contains(m.getName()));
        }
        for (Constructor<?> made : c.getDeclaredConstructors()) {
            check.holds("1 the constructor", Modifier.isPublic(made.getModifiers()) && made.getParameterCount() == 0);
        }
        for (Field f : c.getDeclaredFields()) {
            boolean constant = List.of("NONE", "BAD", "NOT", "FULL").contains(f.getName());
            int how = f.getModifiers();
            check.holds("1 " + f, constant ? Modifier.isPublic(how) && Modifier.isStatic(how) : Modifier.isPrivate(how));
        }
    }

    private static String told(Method m) {
        List<String> types = new ArrayList<>();
        for (Class<?> type : m.getParameterTypes()) types.add(type.getName());
        return m.getReturnType().getName() + " " + m.getName() + "(" + String.join(",", types) + ")";
    }

    /** Rules 1, 2, 5, 11. */
    private static void classesInside() {
        Class<?>[] inside = SneezeGuard.class.getDeclaredClasses();
        check.holds("11 some twelve classes", inside.length + 1 <= 12);
        for (Class<?> c : inside) {
            check.holds("2 static: " + c, Modifier.isStatic(c.getModifiers()));
            check.holds("1 not public: " + c, !Modifier.isPublic(c.getModifiers()));
            checkFields(c);
        }
        checkFields(SneezeGuard.class);
    }

    private static void checkFields(Class<?> c) {
        int fields = 0;
        for (Field f : c.getDeclaredFields()) {
            if (Modifier.isStatic(f.getModifiers())) {
                check.holds("5 final: " + f, Modifier.isFinal(f.getModifiers()));
            } else {
                fields++;
            }
        }
        check.holds("11 some twenty fields: " + c, fields <= 20);
        for (Method m : c.getDeclaredMethods()) check.holds("11 seven parameters: " + m, m.getParameterCount() <= 7);
    }

    /** The source without comments and without what stands in texts. */
    private static String bare(String source) {
        return source.replaceAll("(?s)/\\*.*?\\*/", " ").replaceAll("//[^\n]*", " ")
            .replaceAll("\"(\\\\.|[^\"\\\\])*\"", "\"\"").replaceAll("'(\\\\.|[^'\\\\])'", "' '");
    }

    private static void words(String bare) {
        for (String word : WORDS) {
            Matcher m = Pattern.compile("(?<![A-Za-z_])" + Pattern.quote(word) + "(?![A-Za-z_])").matcher(bare);
            check.holds("the word " + word, !m.find());
        }
        check.holds("2 no lambda", !bare.contains("->"));
        check.holds("2 no method reference", !bare.contains("::"));
        check.holds("5 no static block", !Pattern.compile("static\\s*\\{").matcher(bare).find());
        check.holds("no texts joined by +", !bare.contains("\"\" +") && !bare.contains("+ \"\""));
        Matcher imports = Pattern.compile("import ([^;]*);").matcher(bare);
        while (imports.find()) check.due("4 import " + imports.group(1), imports.group(1).equals("java.util.Arrays") ? 1 : 0, 1);
    }

    /** Signs 1 to 127; and objects are made for fields alone, so that no call makes any (rule 12). */
    private static void places(String source) {
        boolean plain = true;
        for (char sign : source.toCharArray()) plain &= sign < 128;
        check.holds("signs 1 to 127", plain);
        for (String line : bare(source).split("\n")) {
            if (!line.contains("new ")) continue;
            check.holds("12 made for a field: " + line.trim(), line.trim().matches("(private )?final .*|this\\..*"));
        }
    }

    /** Rule 11: methods of some sixty lines at most. */
    private static void methods(String bare) {
        String[] lines = bare.split("\n");
        int depth = 0, from = 0;
        boolean inMethod = false;
        int methodDepth = 0;
        for (int i = 0; i < lines.length; i++) {
            String line = lines[i].trim();
            if (!inMethod && line.matches(".*\\) \\{")) {
                inMethod = true;
                from = i;
                methodDepth = depth;
            }
            for (char sign : line.toCharArray()) depth += sign == '{' ? 1 : sign == '}' ? -1 : 0;
            if (inMethod && depth == methodDepth) {
                inMethod = false;
                check.holds("11 sixty lines: " + lines[from].trim(), i - from + 1 <= 60);
            }
        }
        check.due("braces", depth, 0);
    }
}
