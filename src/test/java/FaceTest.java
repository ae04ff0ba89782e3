import java.lang.reflect.Constructor;
import java.lang.reflect.Field;
import java.lang.reflect.Method;
import java.lang.reflect.Modifier;
import java.nio.charset.StandardCharsets;
import java.nio.file.Files;
import java.nio.file.Path;
import java.util.Arrays;
import java.util.Set;
import java.util.TreeSet;
import java.util.regex.Pattern;
import java.util.stream.Collectors;

/** The public face as the document prints it, and those rules of LANGUAGE.md that a look at the file can tell. */
final class FaceTest {

    private static final String I = "IndexOutOfBoundsException";
    private static final String A = "IllegalArgumentException";
    private static final String S = "IllegalStateException";

    private static final String[] FACE = {
        "int begin(1) " + A, "int set(2) " + A, "int addLabel(2) " + A + " " + S, "int setRow(3) " + I + " " + A,
        "int replace(1) " + I, "int cool(1) " + A, "int addCustomer(0) " + S,
        "int rent(3) " + I + " " + A + " " + S, "int endRent(1) " + I + " " + S,
        "int print(3) " + I + " " + A + " " + S, "int printBest(2) " + I + " " + S, "int dot(2) " + I + " " + A,
        "int label(2) " + I + " " + A, "int row(2) " + I + " " + A, "int customer(2) " + I + " " + A,
        "int whole(1) " + A, "int reason(3) " + I + " " + A, "int price(3) " + I + " " + A,
        "int unreadable(3) " + I + " " + A, "int bestOffset(2) " + I, "int readableFor(3) " + I + " " + A,
        "int mostWorn(0)", "int type(1) " + A + " " + S, "int clearCommands(0)", "int runCommands(0)",
        "int undo(0) " + S, "long digest(0)"};

    /** What stands in no program that keeps to LANGUAGE.md, its comments and texts left out. */
    private static final String[] FORBIDDEN = {"\\bpackage\\b", "::", "\\bsynchronized\\b", "\\bassert\\b",
        "\\bfinally\\b", "Exact\\s*\\(", "\\bhashCode\\b", "\\bRandom\\b", "\\bThread\\b",
        "\\bSystem\\s*\\.\\s*(?!arraycopy\\b)", "\\bstatic\\s*\\{",
        "\\bimport\\s+(?!java\\.util\\.(ArrayList|List|Iterator|Arrays|NoSuchElementException|\\*)\\s*;)",
        "\\bcatch\\s*\\([^)]*\\b(Throwable|Error|Exception|ArrayIndexOutOfBoundsException|NullPointerException"
            + "|ClassCastException|NegativeArraySizeException|ArrayStoreException)\\b"};
    private static final Pattern COMMENT_OR_TEXT = Pattern.compile(
        "\"(\\\\.|[^\"\\\\])*\"|'(\\\\.|[^'\\\\])*'|//[^\n]*|/\\*.*?\\*/", Pattern.DOTALL);
    /** An arrow that does not stand behind a label of a switch begins a lambda. */
    private static final Pattern LAMBDA = Pattern.compile("(?<=[;{}])\\s*+(?!case\\b|default\\b)[^;{}]*->");

    private FaceTest() {
    }

    public static void main(String[] args) throws Exception {
        methods();
        constant();
        otherMembers();
        noNameTwice();
        source();
        Check.end();
    }

    private static void methods() {
        Set<String> got = new TreeSet<>();
        for (Method m : WornDots.class.getDeclaredMethods()) {
            if (Modifier.isPublic(m.getModifiers())) {
                got.add(signature(m));
            }
        }
        Check.compare("face", new TreeSet<>(Arrays.asList(FACE)).toString(), got.toString());
    }

    private static String signature(Method m) {
        String thrown = Arrays.stream(m.getExceptionTypes()).map(Class::getSimpleName)
            .collect(Collectors.joining(" "));
        return (m.getReturnType() + " " + m.getName() + "(" + m.getParameterCount() + ") " + thrown).trim();
    }

    private static void constant() throws NoSuchFieldException {
        Field none = WornDots.class.getField("NONE");
        Check.compare("NONE", "public static final int", Modifier.toString(none.getModifiers()) + " " + none.getType());
        Check.gives("NONE", -1, () -> WornDots.NONE);
        Check.gives("public fields", 1, () -> WornDots.class.getFields().length);
    }

    private static void otherMembers() {
        Check.compare("class", "public final", Modifier.toString(WornDots.class.getModifiers()));
        Check.gives("constructors", 1, () -> WornDots.class.getDeclaredConstructors().length);
        for (Constructor<?> c : WornDots.class.getDeclaredConstructors()) {
            Check.compare("constructor", "public 0", Modifier.toString(c.getModifiers()) + " " + c.getParameterCount());
        }
        for (Field f : WornDots.class.getDeclaredFields()) {
            boolean fine = f.getName().equals("NONE") || Modifier.isPrivate(f.getModifiers());
            Check.compare("field " + f.getName(), "true", Boolean.toString(fine));
            boolean bound = !Modifier.isStatic(f.getModifiers()) || Modifier.isFinal(f.getModifiers());
            Check.compare("static field " + f.getName(), "true", Boolean.toString(bound));
        }
        for (Method m : WornDots.class.getDeclaredMethods()) {
            boolean fine = Modifier.isPublic(m.getModifiers()) || Modifier.isPrivate(m.getModifiers());
            Check.compare("method " + m.getName(), "true", Boolean.toString(fine));
        }
    }

    private static void noNameTwice() {
        Set<String> names = new TreeSet<>();
        for (String line : FACE) {
            names.add(line.substring(line.indexOf(' ') + 1, line.indexOf('(')));
        }
        Check.gives("names of the face", FACE.length, names::size);
        for (Method m : WornDots.class.getDeclaredMethods()) {
            boolean fine = Modifier.isPublic(m.getModifiers()) || !names.contains(m.getName());
            Check.compare("name " + m.getName(), "true", Boolean.toString(fine));
        }
        for (Class<?> inner : WornDots.class.getDeclaredClasses()) {
            for (Method m : inner.getDeclaredMethods()) {
                boolean fine = !Modifier.isPrivate(m.getModifiers()) || !names.contains(m.getName());
                Check.compare("name " + m.getName(), "true", Boolean.toString(fine));
            }
        }
    }

    private static void source() throws Exception {
        String source = Files.readString(Path.of("src/main/java/WornDots.java"), StandardCharsets.UTF_8);
        String code = COMMENT_OR_TEXT.matcher(source).replaceAll(" ");
        for (String words : FORBIDDEN) {
            Check.compare("the source has " + words, "false",
                Boolean.toString(Pattern.compile(words).matcher(code).find()));
        }
        Check.compare("the source has a lambda", "false", Boolean.toString(LAMBDA.matcher(code).find()));
        Check.compare("all signs are 1 to 127", "true",
            Boolean.toString(source.chars().allMatch(sign -> sign > 0 && sign < 128)));
    }
}
