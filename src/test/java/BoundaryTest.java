import java.lang.reflect.InvocationTargetException;
import java.lang.reflect.Method;
import java.nio.charset.StandardCharsets;
import java.nio.file.Files;
import java.nio.file.Path;
import java.util.ArrayList;
import java.util.Comparator;
import java.util.List;

/**
 * Runs every test that bears a sentence of the document, each by itself, and looks whether each sentence has a test.
 * With a part of a name behind it runs the tests alone whose names have that part; run from the project's root.
 */
public final class BoundaryTest {
    private static final Class<?>[] CASES = {TextBoundaries.class, EventBoundaries.class, HourBoundaries.class,
        PlanBoundaries.class, SeenBoundaries.class, SheetBoundaries.class, RefusalBoundaries.class};
    private static final Path DOCUMENT = Path.of("../shared/DOC.md");

    private static int passed = 0, failed = 0;

    public static void main(String[] args) throws Exception {
        List<Method> tests = tests();
        for (Method test : tests) if (args.length == 0 || test.getName().contains(args[0])) run(test);
        if (args.length == 0) compareWithDocument(tests);
        System.out.println("BoundaryTest: " + passed + " tests passed, " + failed + " failed");
        if (failed != 0 || passed == 0) System.exit(1);
    }

    private static List<Method> tests() {
        List<Method> tests = new ArrayList<>();
        for (Class<?> c : CASES) {
            for (Method m : c.getDeclaredMethods()) if (m.isAnnotationPresent(Sentence.class)) tests.add(m);
        }
        tests.sort(Comparator.comparing(Method::getName));
        return tests;
    }

    private static void run(Method test) throws IllegalAccessException {
        Check check = new Check();
        try {
            test.invoke(null, check);
        } catch (InvocationTargetException e) {
            check.holds("it threw " + e.getCause(), false);
        }
        if (check.anyRight() && !check.anyWrong()) {
            passed++;
        } else {
            fail(test.getName() + ", of: " + test.getAnnotation(Sentence.class).says());
        }
    }

    private static void fail(String what) {
        failed++;
        System.out.println("FAILED " + what);
    }

    // Each word of the terms and of the promises is to stand in a sentence that some test bears.
    private static void compareWithDocument(List<Method> tests) throws Exception {
        if (!Files.isReadable(DOCUMENT)) {
            System.out.println("no document at " + DOCUMENT + ": the sentences are not compared with it");
            return;
        }
        String text = Files.readString(DOCUMENT, StandardCharsets.UTF_8);
        boolean[] borne = new boolean[text.length()];
        for (Method test : tests) bear(test, text, borne);
        int from = text.indexOf("## Terms"), to = text.indexOf("## Not promised");
        if (from < 0 || to < 0) fail("the document has no terms, or no end");
        for (String line : text.substring(Math.max(from, 0), Math.max(to, 0)).split("\n")) {
            int at = text.indexOf(line, from);
            if (!isOutside(line)) leftOver(text, borne, at, at + line.length());
            from = at + line.length();
        }
    }

    private static void bear(Method test, String text, boolean[] borne) {
        Sentence sentence = test.getAnnotation(Sentence.class);
        int from = text.indexOf("\n## " + sentence.in() + "\n");
        int end = from < 0 ? -1 : text.indexOf("\n## ", from + 1);
        int at = from < 0 ? -1 : text.indexOf(sentence.says(), from);
        if (at < 0 || at > end && end >= 0) {
            fail(test.getName() + ": \"" + sentence.says() + "\" does not stand under " + sentence.in());
            return;
        }
        for (int i = at; i < at + sentence.says().length(); i++) borne[i] = true;
    }

    /** Headings, and what tells of the face's look alone. */
    private static boolean isOutside(String line) {
        return line.startsWith("#") || line.startsWith("Ahead of the calls");
    }

    private static void leftOver(String text, boolean[] borne, int from, int to) {
        StringBuilder left = new StringBuilder();
        boolean signature = false;
        for (int i = from; i < to; i++) {
            if (text.charAt(i) == '`') signature = !signature;
            if (!signature && !borne[i]) left.append(text.charAt(i));
        }
        String words = left.toString().replaceAll("======== [234]", "").replaceAll("[^A-Za-z0-9]+", " ").trim();
        if (!words.isEmpty()) fail("no test bears: " + words);
    }
}
