import java.lang.reflect.InvocationTargetException;
import java.lang.reflect.Method;
import java.nio.charset.StandardCharsets;
import java.nio.file.Files;
import java.nio.file.Path;
import java.util.ArrayList;
import java.util.Arrays;
import java.util.Comparator;
import java.util.List;
import java.util.Map;
import java.util.Set;
import java.util.TreeMap;
import java.util.function.Supplier;
import java.util.regex.Matcher;
import java.util.regex.Pattern;

/** Runs the tests of single sentences, and looks that the document says them, and that none is left out. */
public final class SentenceTest {

    private static final List<Supplier<Sentences>> CLASSES = List.of(FieldTerms::new, WhaleTerms::new, StrikeTerms::new,
        RefusalTerms::new, TextTerms::new, HistoryTerms::new, OtherTerms::new, WhalePromises::new, StrokePromises::new,
        FieldPromises::new, BuoyPromises::new, OrderPromises::new, LinePromises::new, TextPromises::new,
        HistoryPromises::new);

    /** Sentences that name no boundary case, or name it again just as the sentence beside them does. */
    private static final Set<String> NO_EDGE = Set.of("- `out`: the whale", "- `whale`: the whale", "- `cell`: the cell",
        "- `team`: the team", "Returns a number of a whale.", "Returns the number.", "Returns the whale on a cell.",
        "Returns whether it is.", "Returns how high.", "Returns in how many.", "Returns how few.", "Returns whether it would.",
        "Returns how many.", "Returns the whale.", "Returns the calf.", "Returns which team leads.", "Returns whether it is so.",
        "Returns the character.", "Returns the mean.", "Returns the share.", "Returns an account.", "Returns the account.",
        "Returns the error position.");

    private final Check check = new Check("SentenceTest");
    private final Map<Integer, String> document = new TreeMap<>();
    private final Map<Integer, List<String>> held = new TreeMap<>();

    public static void main(String[] args) throws Exception {
        SentenceTest test = new SentenceTest();
        test.readDocument(Path.of(args[0]));
        int tests = 0;
        for (Supplier<Sentences> sentences : CLASSES) {
            tests += test.run(sentences);
        }
        test.checkAllHeld();
        System.out.println("SentenceTest: " + tests + " tests of single sentences");
        test.check.end();
    }

    private int run(Supplier<Sentences> sentences) throws Exception {
        Method[] methods = sentences.get().getClass().getDeclaredMethods();
        Arrays.sort(methods, Comparator.comparing(Method::getName));
        int tests = 0;
        for (Method method : methods) {
            Holds holds = method.getAnnotation(Holds.class);
            if (holds != null) {
                run(sentences.get(), method, holds);
                tests++;
            }
        }
        return tests;
    }

    private void run(Sentences sentences, Method method, Holds holds) throws Exception {
        String place = holds.promise() == 0 ? "Terms" : "Promise " + holds.promise();
        String name = sentences.getClass().getSimpleName() + "." + method.getName() + " (" + place + ", \""
            + holds.says() + "\")";
        String section = document.getOrDefault(holds.promise(), "");
        check.same(name + " holds words of the document", true, section.contains(holds.says()));
        held.computeIfAbsent(holds.promise(), promise -> new ArrayList<>()).add(holds.says());
        sentences.begin(check, name);
        try {
            method.invoke(sentences);
        } catch (InvocationTargetException e) {
            check.same(name, "no exception", e.getCause());
        }
    }

    private void readDocument(Path path) throws Exception {
        String section = "";
        Pattern promise = Pattern.compile("## Promise (\\d+): .*");
        for (String line : Files.readAllLines(path, StandardCharsets.UTF_8)) {
            Matcher matcher = promise.matcher(line);
            if (line.startsWith("## ")) {
                section = line.equals("## Terms") ? "0" : matcher.matches() ? matcher.group(1) : "";
            } else if (!section.isEmpty()) {
                document.merge(Integer.valueOf(section), line, (a, b) -> a + " " + b);
            }
        }
        document.replaceAll((number, text) -> text.replaceAll("\\s+", " ").trim());
        check.same("the terms and the promises were found", 39, document.size());
    }

    /** The sentences of a section, taken apart where a semicolon, a bullet or an exception begins another one. */
    private static List<String> partsOf(String section) {
        String body = section.replaceFirst("^`[^`]*`: ", "");
        List<String> parts = new ArrayList<>();
        for (String part : body.split("(?<=[.]) (?=[A-Za-z\"])| (?=Returns |Throws `|- `)|; ")) {
            if (part.split(" ").length > 2) {
                parts.add(part.trim());
            }
        }
        return parts;
    }

    private void checkAllHeld() {
        for (Map.Entry<Integer, String> section : document.entrySet()) {
            List<String> says = held.getOrDefault(section.getKey(), List.of());
            for (String part : partsOf(section.getValue())) {
                boolean isHeld = says.stream().anyMatch(words -> part.contains(words) || words.contains(part));
                check.same("promise " + section.getKey() + ", a test holds: " + part, true,
                    isHeld || NO_EDGE.contains(part) || part.startsWith("Ahead of the calls"));
            }
        }
    }
}
