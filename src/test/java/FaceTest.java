import java.lang.reflect.Constructor;
import java.lang.reflect.Field;
import java.lang.reflect.Method;
import java.lang.reflect.Modifier;
import java.nio.charset.StandardCharsets;
import java.nio.file.Files;
import java.nio.file.Path;
import java.util.Arrays;
import java.util.Set;
import java.util.TreeSet;
import java.util.regex.Pattern;
import java.util.stream.Collectors;

/** The public face as the document prints it, and those rules of LANGUAGE.md that a look at the file can tell. */
final class FaceTest {

    /** The face as the document prints it, with the words that stand ahead of its calls. */
    private static final String[] FACE = {
        "// ---- head and labels",
        "public int begin(int dots) throws IllegalArgumentException",
        "public int set(int what, int value) throws IllegalArgumentException",
        "public int addLabel(int width, int blackness) throws IllegalArgumentException, IllegalStateException",
        "public int setRow(int label, int row, int cells) throws IndexOutOfBoundsException, IllegalArgumentException",
        "public int replace(int dot) throws IndexOutOfBoundsException",
        "public int cool(int lines) throws IllegalArgumentException",
        "// ---- customers",
        "public int addCustomer() throws IllegalStateException",
        "public int rent(int customer, int from, int to) throws IndexOutOfBoundsException, IllegalArgumentException,"
            + " IllegalStateException",
        "public int endRent(int customer) throws IndexOutOfBoundsException, IllegalStateException",
        "public int print(int customer, int label, int offset) throws IndexOutOfBoundsException,"
            + " IllegalArgumentException, IllegalStateException",
        "public int printBest(int customer, int label) throws IndexOutOfBoundsException, IllegalStateException",
        "// ---- values",
        "public int dot(int dot, int what) throws IndexOutOfBoundsException, IllegalArgumentException",
        "public int label(int label, int what) throws IndexOutOfBoundsException, IllegalArgumentException",
        "public int row(int label, int row) throws IndexOutOfBoundsException, IllegalArgumentException",
        "public int customer(int customer, int what) throws IndexOutOfBoundsException, IllegalArgumentException",
        "public int whole(int what) throws IllegalArgumentException",
        "// ---- what if, which changes nothing",
        "public int reason(int customer, int label, int offset) throws IndexOutOfBoundsException,"
            + " IllegalArgumentException",
        "public int price(int customer, int label, int offset) throws IndexOutOfBoundsException,"
            + " IllegalArgumentException",
        "public int unreadable(int customer, int label, int offset) throws IndexOutOfBoundsException,"
            + " IllegalArgumentException",
        "public int bestOffset(int customer, int label) throws IndexOutOfBoundsException",
        "public int readableFor(int customer, int label, int offset) throws IndexOutOfBoundsException,"
            + " IllegalArgumentException",
        "public int mostWorn()",
        "// ---- command text, undo and checksum",
        "public int type(int value) throws IllegalArgumentException, IllegalStateException",
        "public int clearCommands()",
        "public int runCommands()",
        "public int undo() throws IllegalStateException",
        "public long digest()"};
    private static final Pattern HEADING_OR_CALL = Pattern.compile(
        "// ----[^\n]*|public (static )?(int|long) \\w+\\([^{;]*");

    /** What stands in no program that keeps to LANGUAGE.md, its comments and texts left out. */
    private static final String[] FORBIDDEN = {"\\bpackage\\b", "::", "\\bsynchronized\\b", "\\bassert\\b",
        "\\bfinally\\b", "Exact\\s*\\(", "\\bhashCode\\b", "\\bRandom\\b", "\\bThread\\b",
        "\\bSystem\\s*\\.\\s*(?!arraycopy\\b)", "\\bstatic\\s*\\{",
        "\\bimport\\s+(?!java\\.util\\.(ArrayList|List|Iterator|Arrays|NoSuchElementException|\\*)\\s*;)",
        "\\bcatch\\s*\\([^)]*\\b(Throwable|Error|Exception|ArrayIndexOutOfBoundsException|NullPointerException"
            + "|ClassCastException|NegativeArraySizeException|ArrayStoreException)\\b"};
    private static final Pattern COMMENT_OR_TEXT = Pattern.compile(
        "\"(\\\\.|[^\"\\\\])*\"|'(\\\\.|[^'\\\\])*'|//[^\n]*|/\\*.*?\\*/", Pattern.DOTALL);
    /** An arrow that does not stand behind a label of a switch begins a lambda. */
    private static final Pattern LAMBDA = Pattern.compile("(?<=[;{}])\\s*+(?!case\\b|default\\b)[^;{}]*->");

    private FaceTest() {
    }

    public static void main(String[] args) throws Exception {
        methods();
        constant();
        otherMembers();
        noNameTwice();
        source();
        Check.end();
    }

    private static void methods() {
        Set<String> due = new TreeSet<>();
        for (String line : FACE) {
            if (line.startsWith("public")) {
                due.add(withoutNames(line));
            }
        }
        Set<String> got = new TreeSet<>();
        for (Method m : WornDots.class.getDeclaredMethods()) {
            if (Modifier.isPublic(m.getModifiers())) {
                got.add(signature(m));
            }
        }
        Check.compare("face", due.toString(), got.toString());
    }

    /** A line of the face without the names of the arguments: they are no longer there in a compiled class. */
    private static String withoutNames(String line) {
        return line.replaceAll("(int) \\w+(?=[,)])", "$1");
    }

    private static String signature(Method m) {
        return Modifier.toString(m.getModifiers()) + " " + m.getReturnType() + " " + m.getName()
            + "(" + names(m.getParameterTypes()) + ")"
            + (m.getExceptionTypes().length == 0 ? "" : " throws " + names(m.getExceptionTypes()));
    }

    private static String names(Class<?>[] types) {
        return Arrays.stream(types).map(Class::getSimpleName).collect(Collectors.joining(", "));
    }

    private static void constant() throws NoSuchFieldException {
        Field none = WornDots.class.getField("NONE");
        Check.compare("NONE", "public static final int", Modifier.toString(none.getModifiers()) + " " + none.getType());
        Check.gives("NONE", -1, () -> WornDots.NONE);
        Check.gives("public fields", 1, () -> WornDots.class.getFields().length);
    }

    private static void otherMembers() {
        Check.compare("class", "public final", Modifier.toString(WornDots.class.getModifiers()));
        Check.gives("constructors", 1, () -> WornDots.class.getDeclaredConstructors().length);
        for (Constructor<?> c : WornDots.class.getDeclaredConstructors()) {
            Check.compare("constructor", "public 0", Modifier.toString(c.getModifiers()) + " " + c.getParameterCount());
        }
        for (Field f : WornDots.class.getDeclaredFields()) {
            boolean fine = f.getName().equals("NONE") || Modifier.isPrivate(f.getModifiers());
            Check.compare("field " + f.getName(), "true", Boolean.toString(fine));
            boolean bound = !Modifier.isStatic(f.getModifiers()) || Modifier.isFinal(f.getModifiers());
            Check.compare("static field " + f.getName(), "true", Boolean.toString(bound));
        }
        for (Method m : WornDots.class.getDeclaredMethods()) {
            boolean fine = Modifier.isPublic(m.getModifiers()) || Modifier.isPrivate(m.getModifiers());
            Check.compare("method " + m.getName(), "true", Boolean.toString(fine));
        }
    }

    private static void noNameTwice() {
        Set<String> names = new TreeSet<>();
        for (String line : FACE) {
            if (line.startsWith("public")) {
                names.add(line.substring(line.lastIndexOf(' ', line.indexOf('(')) + 1, line.indexOf('(')));
            }
        }
        Check.gives("names of the face", 27, names::size);
        for (Method m : WornDots.class.getDeclaredMethods()) {
            boolean fine = Modifier.isPublic(m.getModifiers()) || !names.contains(m.getName());
            Check.compare("name " + m.getName(), "true", Boolean.toString(fine));
        }
        for (Class<?> inner : WornDots.class.getDeclaredClasses()) {
            for (Method m : inner.getDeclaredMethods()) {
                boolean fine = !Modifier.isPrivate(m.getModifiers()) || !names.contains(m.getName());
                Check.compare("name " + m.getName(), "true", Boolean.toString(fine));
            }
        }
    }

    private static void source() throws Exception {
        String source = Files.readString(Path.of("src/main/java/WornDots.java"), StandardCharsets.UTF_8);
        Check.compare("face in the source", String.join("\n", FACE), faceOf(source));
        String code = COMMENT_OR_TEXT.matcher(source).replaceAll(" ");
        for (String words : FORBIDDEN) {
            Check.compare("the source has " + words, "false",
                Boolean.toString(Pattern.compile(words).matcher(code).find()));
        }
        Check.compare("the source has a lambda", "false", Boolean.toString(LAMBDA.matcher(code).find()));
        Check.compare("all signs are 1 to 127", "true",
            Boolean.toString(source.chars().allMatch(sign -> sign > 0 && sign < 128)));
    }

    /** The headings and the calls in the order in which they stand in the source. */
    private static String faceOf(String source) {
        return HEADING_OR_CALL.matcher(source).results()
            .map(found -> found.group().replaceAll("\\s+", " ").trim())
            .collect(Collectors.joining("\n"));
    }
}
