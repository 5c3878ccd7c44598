import java.io.IOException;
import java.lang.reflect.InvocationTargetException;
import java.lang.reflect.Method;
import java.nio.file.Files;
import java.nio.file.Path;
import java.util.ArrayList;
import java.util.Arrays;
import java.util.Comparator;
import java.util.List;
import java.util.TreeMap;

/**
 * Runs a test for each sentence of ../shared/DOC.md. Each test bears its sentence's own words: they must stand in the
 * document, and no sentence of its terms and promises may be without a test.
 */
public final class EdgesTest extends Dues {
    private static final Path DOC = Path.of("../shared/DOC.md");
    private static final int PROMISES = 46;

    /** A sentence of the document; under the terms it has promise 0. */
    private record Sentence(int promise, String words) { }

    private static List<Method> tests() {
        List<Method> all = new ArrayList<>();
        for (Class<?> part : List.of(SiteEdges.class, TextEdges.class, KnowingEdges.class, JudgingEdges.class)) {
            for (Method m : part.getDeclaredMethods()) if (m.isAnnotationPresent(Edge.class)) all.add(m);
        }
        all.sort(Comparator.comparingInt((Method m) -> m.getAnnotation(Edge.class).promise()).thenComparing(Method::getName));
        return all;
    }

    private static void run(Method m) throws IllegalAccessException {
        Edge edge = m.getAnnotation(Edge.class);
        title = "promise " + edge.promise() + ", " + m.getName() + " (" + edge.says() + ")";
        int before = dues;
        try {
            m.invoke(null);
        } catch (InvocationTargetException e) {
            e.getCause().printStackTrace(System.out);
            due("the test", 0, 1);
        }
        due("the test's own dues", dues > before ? 1 : 0, 1);
    }

    private static String plain(String words) { return words.replace("```text", " ").replaceAll("[`\\s]+", " ").trim(); }

    /** A sentence ends with a full stop, but not with the two of a span. */
    private static List<Sentence> sentences(int promise, String words) {
        List<Sentence> all = new ArrayList<>();
        for (String s : plain(words).split("(?<=[^ .])\\.(?= |$)")) {
            if (!s.isBlank()) all.add(new Sentence(promise, s.trim()));
        }
        return all;
    }

    private static List<Sentence> document() throws IOException {
        String doc = Files.readString(DOC);
        List<Sentence> all = new ArrayList<>();
        for (String part : doc.split("\n## ")) {
            if (part.startsWith("Terms")) {
                all.addAll(sentences(0, part.substring(5, part.indexOf("The constants:")).replaceAll("==== [IV]+\\. |====", "")));
            } else if (part.startsWith("Promise ")) {
                int promise = Integer.parseInt(part.substring(8, part.indexOf(':')));
                all.addAll(sentences(promise, part.substring(part.indexOf("`: ") + 3)));
            }
        }
        return all;
    }

    /** Whether a test's words stand in a sentence, or reach beyond it; few words could stand in any of the terms. */
    private static boolean tells(Edge edge, Sentence s) {
        String words = edge.says().endsWith(".") ? edge.says().substring(0, edge.says().length() - 1) : edge.says();
        boolean own = s.promise() == edge.promise() || s.promise() == 0 && words.length() > 11;
        return own && (s.words().contains(words) || words.contains(s.words()));
    }

    private static void holdAgainst(List<Sentence> document, List<Method> tests) {
        title = "the document";
        for (Method m : tests) {
            Edge edge = m.getAnnotation(Edge.class);
            due(m.getName() + "'s words (" + edge.says() + ") stand there", document.stream().anyMatch(s -> tells(edge, s)) ? 1 : 0, 1);
        }
        for (Sentence s : document) {
            due("promise " + s.promise() + ": \"" + s.words() + "\" has a test",
                tests.stream().anyMatch(m -> tells(m.getAnnotation(Edge.class), s)) ? 1 : 0, 1);
        }
    }

    public static void main(String[] args) throws Exception {
        List<Method> tests = tests();
        TreeMap<Integer, Integer> count = new TreeMap<>();
        for (Method m : tests) {
            if (args.length > 0 && !Arrays.asList(args).contains(m.getName())) continue;
            run(m);
            count.merge(m.getAnnotation(Edge.class).promise(), 1, Integer::sum);
        }
        if (!Files.exists(DOC)) System.out.println(DOC + " isn't there: the tests' words aren't held against it");
        else if (args.length == 0) holdAgainst(document(), tests);
        close(tests.size() + " tests of sentences of " + count.size() + " promises", args.length > 0 || count.size() == PROMISES);
    }
}
