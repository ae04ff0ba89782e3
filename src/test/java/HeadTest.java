/** Promises 1 to 3, 6, 7, 13 and 23: a new object, begin, set, replace, cool, dot and mostWorn. */
final class HeadTest {

    private HeadTest() {
    }

    public static void main(String[] args) {
        newObject();
        begin();
        beginKeepsTheRest();
        settings();
        replace();
        cool();
        dotValues();
        mostWorn();
        Check.end();
    }

    /** A printer with one customer and a label with a black row 0 over all its columns. */
    static WornDots withLabel(int width, int blackness) {
        WornDots x = new WornDots();
        x.addCustomer();
        x.addLabel(width, blackness);
        x.setRow(0, 0, (1 << width) - 1);
        return x;
    }

    private static void newObject() {
        WornDots x = new WornDots();
        int[] whole = {12, 8, 60, 100, 20, 1, 2, 5, 0, 0, 0, 0, 0, 0, 0, 0, 0, 0};
        for (int what = 0; what < whole.length; what++) {
            int w = what;
            Check.gives("new: whole " + what, whole[what], () -> x.whole(w));
        }
        for (int dot = 0; dot < 12; dot++) {
            int d = dot;
            Check.gives("new: heat", 0, () -> x.dot(d, 0));
            Check.gives("new: wear", 0, () -> x.dot(d, 1));
            Check.gives("new: renter", -1, () -> x.dot(d, 2));
            Check.gives("new: burnt", 0, () -> x.dot(d, 3));
            Check.gives("new: fade", 0, () -> x.dot(d, 4));
        }
        Check.refuses("new: undo", Check.STATE, x::undo);
        Check.gives("NONE", -1, () -> WornDots.NONE);
    }

    private static void begin() {
        WornDots x = withLabel(3, 9);
        Check.gives("begin(4)", 0, () -> x.begin(4));
        Check.gives("dots", 4, () -> x.whole(0));
        x.print(0, 0, 0);
        Check.gives("begin(24) tells the wear", 27, () -> x.begin(24));
        Check.gives("dots", 24, () -> x.whole(0));
        Check.gives("wear", 0, () -> x.whole(10));
        Check.gives("burnt by heads that are gone", 27, () -> x.whole(11));
        for (int dot = 0; dot < 24; dot++) {
            int d = dot;
            Check.gives("heat", 0, () -> x.dot(d, 0));
            Check.gives("burnt", 0, () -> x.dot(d, 3));
        }
        Check.gives("undo of begin", 3, x::undo);
        Check.gives("dots", 4, () -> x.whole(0));
        Check.gives("wear", 9, () -> x.dot(2, 1));
        int[] wrong = {3, 25, 0, -1, Integer.MIN_VALUE, Integer.MAX_VALUE};
        for (int dots : wrong) {
            Check.refusesWithoutTrace(x, "begin(" + dots + ")", Check.ARGUMENT, () -> x.begin(dots));
        }
    }

    private static void beginKeepsTheRest() {
        WornDots x = withLabel(2, 1);
        x.set(6, 7);
        x.rent(0, 1, 5);
        x.print(0, 0, 4);
        x.begin(5);
        Check.gives("nothing is rented", 0, () -> x.whole(15));
        Check.gives("first dot", -1, () -> x.customer(0, 0));
        Check.gives("last dot", -1, () -> x.customer(0, 1));
        Check.gives("money stays", 14, () -> x.customer(0, 2));
        Check.gives("setting stays", 7, () -> x.whole(7));
        Check.gives("label stays", 3, () -> x.row(0, 0));
        Check.gives("printed stays", 1, () -> x.label(0, 3));
        Check.gives("lines stay", 6, () -> x.whole(16));
    }

    private static void settings() {
        WornDots x = new WornDots();
        int[] first = {8, 60, 100, 20, 1, 2, 5};
        int[] low = {0, 10, 0, 1, 0, 0, 1};
        int[] high = {30, 90, 9999, 100, 8, 20, 100};
        for (int what = 0; what < 7; what++) {
            int w = what;
            Check.gives("set to the lowest " + w, first[w], () -> x.set(w, low[w]));
            Check.gives("whole " + (w + 1), low[w], () -> x.whole(w + 1));
            Check.gives("set to the highest " + w, low[w], () -> x.set(w, high[w]));
            Check.gives("whole " + (w + 1), high[w], () -> x.whole(w + 1));
            Check.refusesWithoutTrace(x, "set too low " + w, Check.ARGUMENT, () -> x.set(w, low[w] - 1));
            Check.refusesWithoutTrace(x, "set too high " + w, Check.ARGUMENT, () -> x.set(w, high[w] + 1));
            Check.refuses("set far too low " + w, Check.ARGUMENT, () -> x.set(w, Integer.MIN_VALUE));
            Check.refuses("set far too high " + w, Check.ARGUMENT, () -> x.set(w, Integer.MAX_VALUE));
        }
        int[] wrong = {-1, 7, Integer.MIN_VALUE, Integer.MAX_VALUE};
        for (int what : wrong) {
            Check.refusesWithoutTrace(x, "set(" + what + ", 10)", Check.ARGUMENT, () -> x.set(what, 10));
        }
        Check.gives("undo of set", 3, x::undo);
        Check.gives("setting before", 1, () -> x.whole(7));
    }

    private static void replace() {
        WornDots x = withLabel(2, 9);
        x.rent(0, 0, 3);
        x.print(0, 0, 0);
        Check.gives("replace", 9, () -> x.replace(1));
        Check.gives("heat", 0, () -> x.dot(1, 0));
        Check.gives("wear", 0, () -> x.dot(1, 1));
        Check.gives("renter stays", 0, () -> x.dot(1, 2));
        Check.gives("burnt begins anew", 0, () -> x.dot(1, 3));
        Check.gives("other dot", 9, () -> x.dot(0, 1));
        Check.gives("burnt in all", 18, () -> x.whole(11));
        Check.gives("wear in all", 9, () -> x.whole(10));
        Check.gives("undo of replace", 3, x::undo);
        Check.gives("wear is back", 9, () -> x.dot(1, 1));
        int[] wrong = {-1, 12, 23, 24, Integer.MIN_VALUE, Integer.MAX_VALUE};
        for (int dot : wrong) {
            Check.refusesWithoutTrace(x, "replace(" + dot + ")", Check.INDEX, () -> x.replace(dot));
        }
        Check.gives("replace the last dot", 0, () -> x.replace(11));
    }

    private static void cool() {
        WornDots x = withLabel(2, 9);
        x.print(0, 0, 0);
        Check.gives("heat after six lines", 42, () -> x.dot(0, 0));
        Check.gives("cool(1)", 68, () -> x.cool(1));
        Check.gives("heat", 34, () -> x.dot(1, 0));
        Check.gives("cool(4)", 4, () -> x.cool(4));
        Check.gives("cool(1) to nothing", 0, () -> x.cool(1));
        Check.gives("cool(20)", 0, () -> x.cool(20));
        Check.gives("lines", 32, () -> x.whole(16));
        Check.gives("undo of cool", 3, x::undo);
        Check.gives("lines", 12, () -> x.whole(16));
        int[] wrong = {0, 21, -1, Integer.MIN_VALUE, Integer.MAX_VALUE};
        for (int lines : wrong) {
            Check.refusesWithoutTrace(x, "cool(" + lines + ")", Check.ARGUMENT, () -> x.cool(lines));
        }
        x.set(0, 0);
        x.print(0, 0, 2);
        Check.gives("no cooling", 180, () -> x.cool(20));
    }

    private static void dotValues() {
        WornDots x = withLabel(1, 7);
        x.set(2, 3);
        x.set(3, 2);
        x.rent(0, 4, 6);
        x.print(0, 0, 5);
        Check.gives("heat", 22, () -> x.dot(5, 0));
        Check.gives("wear", 7, () -> x.dot(5, 1));
        Check.gives("renter", 0, () -> x.dot(5, 2));
        Check.gives("burnt", 7, () -> x.dot(5, 3));
        Check.gives("fade", 2, () -> x.dot(5, 4));
        Check.gives("renter of the first dot", 0, () -> x.dot(4, 2));
        Check.gives("renter of the last dot", 0, () -> x.dot(6, 2));
        Check.gives("no renter before", -1, () -> x.dot(3, 2));
        Check.gives("no renter behind", -1, () -> x.dot(7, 2));
        x.set(2, 7);
        Check.gives("no fade at the wear limit", 0, () -> x.dot(5, 4));
        x.set(2, 9);
        Check.gives("no fade below the wear limit", 0, () -> x.dot(5, 4));
        Check.refuses("no such dot", Check.INDEX, () -> x.dot(12, 0));
        Check.refuses("no such dot, first of two", Check.INDEX, () -> x.dot(-1, 9));
        Check.refuses("no such dot", Check.INDEX, () -> x.dot(Integer.MAX_VALUE, 0));
        Check.refuses("what too high", Check.ARGUMENT, () -> x.dot(11, 5));
        Check.refuses("what too low", Check.ARGUMENT, () -> x.dot(0, -1));
        Check.refuses("what far too low", Check.ARGUMENT, () -> x.dot(0, Integer.MIN_VALUE));
    }

    private static void mostWorn() {
        WornDots x = withLabel(2, 3);
        Check.gives("none is worn", 0, x::mostWorn);
        x.print(0, 0, 10);
        Check.gives("the lowest of two", 10, x::mostWorn);
        x.print(0, 0, 7);
        Check.gives("the lowest of four", 7, x::mostWorn);
        x.replace(7);
        Check.gives("the lowest of three", 8, x::mostWorn);
        x.print(0, 0, 1);
        x.replace(2);
        x.print(0, 0, 1);
        Check.gives("the second dot", 1, x::mostWorn);
        x.replace(1);
        x.replace(2);
        x.setRow(0, 0, 2);
        x.print(0, 0, 10);
        Check.gives("the last dot", 11, x::mostWorn);
        x.begin(4);
        Check.gives("a new head", 0, x::mostWorn);
    }
}
