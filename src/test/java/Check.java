import java.util.HashSet;
import java.util.Set;

/** Compares what calls answer with what is due, and tells how it went. */
final class Check {

    interface Call {
        long answer();
    }

    static final Class<?> INDEX = IndexOutOfBoundsException.class;
    static final Class<?> ARGUMENT = IllegalArgumentException.class;
    static final Class<?> STATE = IllegalStateException.class;

    private static String sentence = "";
    private static final Set<String> SENTENCES = new HashSet<>();
    private static int right;
    private static int wrong;

    private Check() {
    }

    /** The sentence of the document that is tested from here on: it stands behind each wrong answer. */
    static void sentence(String words) {
        sentence = words;
        SENTENCES.add(words);
    }

    static void gives(String name, long due, Call call) {
        compare(name, Long.toString(due), outcome(call));
    }

    /** The class must be just this one: a class below it would come from the machine. */
    static void refuses(String name, Class<?> due, Call call) {
        compare(name, due.getName(), outcome(call));
    }

    /** As refuses, and the call must leave everything as it was. */
    static void refusesWithoutTrace(WornDots x, String name, Class<?> due, Call call) {
        long before = x.digest();
        refuses(name, due, call);
        gives(name + " changes nothing", before, x::digest);
    }

    static void compare(String name, String due, String got) {
        if (due.equals(got)) {
            right++;
        } else {
            wrong++;
            System.out.println(name + " answered " + got + ", due is " + due
                + (sentence.isEmpty() ? "" : " <" + sentence + ">"));
        }
    }

    static String outcome(Call call) {
        try {
            return Long.toString(call.answer());
        } catch (RuntimeException e) {
            return e.getClass().getName();
        }
    }

    static void end() {
        String of = SENTENCES.isEmpty() ? "" : " for " + SENTENCES.size() + " sentences";
        System.out.println(right + " answers" + of + " as due, " + wrong + " not");
        if (wrong != 0 || right == 0) {
            System.exit(1);
        }
    }
}
