import java.lang.reflect.InvocationTargetException;
import java.lang.reflect.Method;
import java.nio.file.Files;
import java.nio.file.Path;
import java.util.ArrayList;
import java.util.Comparator;
import java.util.List;

/**
 * The sentences of the document that name a boundary, each with a test of its own: the last that is allowed, the
 * first that isn't. A sentence that no longer stands in the document is told, too, as its test may be out of date.
 */
public final class EdgeTest {
    private static final int PROMISES = 28;

    private final Due due = new Due();
    private final String document;
    private final int[] sentences = new int[PROMISES + 1];

    private EdgeTest(String document) {
        this.document = document;
    }

    public static void main(String[] args) throws Exception {
        Path path = Path.of(args[1]);
        EdgeTest test = new EdgeTest(Files.exists(path) ? Files.readString(path) : "");
        test.runAll(new TellEdges(test.due));
        test.runAll(new FaultEdges(test.due));
        test.runAll(new TapeEdges(test.due));
        test.runAll(new CallEdges(test.due));
        test.runAll(new TermEdges(test.due));
        test.runAll(new CrossEdges(test.due));
        test.runAll(new SearchEdges(test.due));
        test.runAll(new SeenEdges(test.due));
        test.runAll(new ImageEdges(test.due));
        for (int i = 0; i <= PROMISES; i++) {
            test.due.yes("promise " + i + " has a sentence", test.sentences[i] > 0);
        }
        test.due.end();
    }

    private void runAll(Object edges) throws IllegalAccessException {
        List<Method> methods = new ArrayList<>(List.of(edges.getClass().getDeclaredMethods()));
        methods.removeIf(method -> method.getAnnotation(Says.class) == null);
        methods.sort(Comparator.comparing(Method::getName));
        for (Method method : methods) {
            Says says = method.getAnnotation(Says.class);
            String about = (says.promise() == 0 ? "Terms" : "promise " + says.promise()) + ", " + method.getName();
            due.about("");
            due.yes(about + ": the document says '" + says.value() + "'", stands(says));
            sentences[says.promise()]++;
            due.about(about + ": ");
            run(edges, method);
        }
        due.about("");
    }

    private void run(Object edges, Method method) throws IllegalAccessException {
        try {
            method.invoke(edges);
        } catch (InvocationTargetException e) {
            due.yes("threw " + e.getCause(), false);
        }
    }

    /** Without the document at hand, the tests are run all the same. */
    private boolean stands(Says says) {
        return document.isEmpty() || partOf(says.promise()).contains(says.value());
    }

    /** What stands under one heading, with single blanks. */
    private String partOf(int promise) {
        String heading = promise == 0 ? "\n## Terms" : "\n## Promise " + promise + ":";
        int from = document.indexOf(heading);
        int to = from < 0 ? from : document.indexOf("\n## ", from + 1);
        return from < 0 || to < 0 ? "" : document.substring(from, to).replaceAll("\\s+", " ");
    }
}
