import java.lang.reflect.Constructor;
import java.lang.reflect.Field;
import java.lang.reflect.Method;
import java.lang.reflect.Modifier;
import java.nio.file.Files;
import java.nio.file.Path;
import java.util.List;
import java.util.Set;
import java.util.TreeSet;
import java.util.regex.Matcher;
import java.util.regex.Pattern;

/** The document's face, and those rules of LANGUAGE.md that can be seen from the class or its text. */
public final class FaceTest {
    private static final String NO_SUCH = " throws NoSuchElementException";
    private static final String ILLEGAL = " throws IllegalArgumentException";
    private static final String BOTH = NO_SUCH + ", IllegalArgumentException";
    private static final Set<String> FACE = Set.of("int feed(int,int,int,int,int)", "int river(int)" + ILLEGAL,
            "int fault()", "int count(int)" + NO_SUCH, "int book(int,int)" + NO_SUCH, "int hearing(int,int)" + NO_SUCH,
            "int walker(int,int)" + NO_SUCH, "boolean docket(int)", "boolean lay(long)", "int up(int,int)" + NO_SUCH,
            "int planks(int,int)" + NO_SUCH, "int crosses(int,int)" + NO_SUCH, "int bar(int,int)" + NO_SUCH,
            "int over(int)" + NO_SUCH, "int best(int)" + NO_SUCH, "long lays(int)" + NO_SUCH,
            "int suit(int,int)" + NO_SUCH, "int settled(int,int)" + NO_SUCH, "int feud(int,int,int,int)" + BOTH,
            "int see(int,int,boolean)" + NO_SUCH, "int forget()", "int explains()", "int heard(int,boolean)" + NO_SUCH,
            "int first()" + NO_SUCH, "int terms(int,int,int)" + BOTH, "void image()", "boolean restore()");

    private static final List<String> NOT_IN_IT = List.of("->", "::", "\\bcatch\\b", "\\btry\\b", "\\bfinally\\b",
            "\\bsynchronized\\b", "\\bassert\\b", "\\binstanceof\\b", "\\bstatic \\{", "\\bprotected\\b", "\\bMath\\.\\w+Exact\\b",
            "\\bSystem\\.(?!arraycopy)", "\\bRandom\\b", "\\bString\\.", "\\bdouble\\b", "\\bfloat\\b", "@");

    private final Due due = new Due();

    public static void main(String[] args) throws Exception {
        FaceTest test = new FaceTest();
        test.members();
        Path document = Path.of(args[1]);
        if (Files.exists(document)) {
            test.document(Files.readString(document));
        }
        String source = Files.readString(Path.of(args[0]));
        test.text(source.replaceAll("(?s)/\\*.*?\\*/", "").replaceAll("//[^\\n]*", ""));
        test.methods(source);
        test.due.end();
    }

    /** The face as the document writes it is the one that the class is held to. */
    private void document(String document) {
        Set<String> told = new TreeSet<>();
        Matcher method = Pattern.compile("(?m)^    public (\\w+ \\w+)\\((.*?)\\)(.*);$").matcher(document);
        while (method.find()) {
            String types = method.group(2).replaceAll(" \\w+(?=,|$)", "").replace(" ", "");
            told.add(method.group(1) + "(" + types + ")" + method.group(3));
        }
        due.yes("the document's face " + told, told.equals(FACE));
    }

    private void members() {
        Class<?> it = BookBridge.class;
        due.yes("the class is public and final", it.getModifiers() == (Modifier.PUBLIC | Modifier.FINAL));
        Set<String> open = new TreeSet<>();
        Set<String> hidden = new TreeSet<>();
        for (Method method : it.getDeclaredMethods()) {
            if (Modifier.isPublic(method.getModifiers())) {
                open.add(signature(method));
            } else {
                due.yes("private: " + method, Modifier.isPrivate(method.getModifiers()) || method.isSynthetic());
                hidden.add(method.getName());
            }
        }
        due.yes("the face " + open, open.equals(FACE));
        for (Method method : it.getDeclaredMethods()) {
            if (Modifier.isPublic(method.getModifiers())) {
                due.yes("no private method is called " + method.getName(), !hidden.contains(method.getName()));
            }
        }
        for (Field field : it.getDeclaredFields()) {
            boolean none = field.getName().equals("NONE") && Modifier.isPublic(field.getModifiers());
            due.yes("private: " + field, none || Modifier.isPrivate(field.getModifiers()));
        }
        due.is("NONE", -1, () -> BookBridge.NONE);
        for (Constructor<?> constructor : it.getDeclaredConstructors()) {
            due.yes("one constructor", constructor.getParameterCount() == 0
                    && Modifier.isPublic(constructor.getModifiers()));
        }
        size(it);
        due.yes("few classes", it.getDeclaredClasses().length < 12);
        for (Class<?> inside : it.getDeclaredClasses()) {
            due.yes("static: " + inside, Modifier.isStatic(inside.getModifiers()));
            size(inside);
            names(inside);
        }
    }

    private static String signature(Method method) {
        StringBuilder text = new StringBuilder(method.getReturnType() + " " + method.getName() + "(");
        for (int i = 0; i < method.getParameterCount(); i++) {
            text.append(i == 0 ? "" : ",").append(method.getParameterTypes()[i]);
        }
        text.append(')');
        for (int i = 0; i < method.getExceptionTypes().length; i++) {
            text.append(i == 0 ? " throws " : ", ").append(method.getExceptionTypes()[i].getSimpleName());
        }
        return text.toString();
    }

    private void size(Class<?> some) {
        int fields = 0;
        for (Field field : some.getDeclaredFields()) {
            boolean fixed = Modifier.isStatic(field.getModifiers());
            due.yes("static fields are final: " + field, !fixed || Modifier.isFinal(field.getModifiers()));
            fields += fixed ? 0 : 1;
        }
        due.yes("few fields: " + some, fields <= 20);
        for (Method method : some.getDeclaredMethods()) {
            due.yes("few parameters: " + method, method.getParameterCount() <= 7);
        }
    }

    private void names(Class<?> inside) {
        for (Method method : inside.getDeclaredMethods()) {
            boolean taken = FACE.stream().anyMatch(signature -> signature.contains(" " + method.getName() + "("));
            due.yes("no name of the face: " + method, !taken);
        }
    }

    private void text(String source) {
        for (String wrong : NOT_IN_IT) {
            due.yes("not in it: " + wrong, !Pattern.compile(wrong).matcher(source).find());
        }
        Matcher imports = Pattern.compile("import ([\\w.]+);").matcher(source);
        while (imports.find()) {
            due.yes("import " + imports.group(1),
                    Set.of("java.util.Arrays", "java.util.NoSuchElementException").contains(imports.group(1)));
        }
        Matcher thrown = Pattern.compile("throw ([^;]*);").matcher(source);
        while (thrown.find()) {
            due.yes("throw " + thrown.group(1), thrown.group(1)
                    .matches("new (NoSuchElementException|IllegalArgumentException)\\(\"[^\"]*\"\\)"));
        }
    }

    /** By how the file is laid out: a method ends at a brace as far in as the line on which it began. */
    private void methods(String source) {
        Pattern method = Pattern.compile("(?m)^( +)(?!.*\\bclass\\b)[\\w\\[\\] ]+\\([^;]*?\\) (?:throws [^{]+)?\\{\\n(?s:(.*?))\\n\\1\\}");
        Matcher matcher = method.matcher(source);
        while (matcher.find()) {
            due.yes("a short method: " + matcher.group().lines().findFirst().orElse(""),
                    matcher.group(2).lines().count() <= 60);
        }
    }
}
