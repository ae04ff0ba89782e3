/** Promises 24 to 26: type, clearCommands and runCommands. */
final class CommandTextTest {

    private CommandTextTest() {
    }

    public static void main(String[] args) {
        type();
        clear();
        faults();
        texts();
        everyWord();
        numbersInTheirPlaces();
        stopsAtARefusal();
        refusedWords();
        savesOneState();
        bytesThatAreGone();
        longestText();
        Check.end();
    }

    private static void type() {
        WornDots x = new WornDots();
        int[] wrong = {-1, 128, 255, Integer.MIN_VALUE, Integer.MAX_VALUE};
        for (int value : wrong) {
            Check.refusesWithoutTrace(x, "type(" + value + ")", Check.ARGUMENT, () -> x.type(value));
        }
        for (int i = 0; i < 150; i++) {
            int n = i;
            Check.gives("type", n + 1, () -> x.type(n % 128));
        }
        Check.gives("length", 150, () -> x.whole(17));
        Check.refusesWithoutTrace(x, "the 151st byte", Check.STATE, () -> x.type(32));
        Check.refuses("the 151st byte out of range", Check.ARGUMENT, () -> x.type(128));
        Check.refuses("type is not undoable", Check.STATE, x::undo);
    }

    private static void clear() {
        WornDots x = new WornDots();
        Check.gives("clear", 0, x::clearCommands);
        Text.put(x, "cool 1;");
        Check.gives("length", 7, () -> x.whole(17));
        Check.gives("clear", 7, x::clearCommands);
        Check.gives("length", 0, () -> x.whole(17));
        Check.gives("an empty text", 0, x::runCommands);
        Check.gives("nothing was done", 0, () -> x.whole(16));
        Check.gives("type", 1, () -> x.type(59));
        Check.gives("clearCommands is not undoable", 0, x::undo);
        Check.gives("the text is not restored", 1, () -> x.whole(17));
    }

    /** A text, and the place of its fault. */
    private static void fault(int place, String text) {
        WornDots x = new WornDots();
        Text.put(x, text);
        long before = x.digest();
        Check.gives("fault of <" + text + ">", -10 - place, x::runCommands);
        Check.gives("nothing is done by <" + text + ">", before, x::digest);
        Check.refuses("nothing is saved by <" + text + ">", Check.STATE, x::undo);
    }

    private static void faults() {
        fault(0, ";");
        fault(2, "  ;");
        fault(0, "1");
        fault(0, "Cool 1;");
        fault(1, " \t");
        fault(0, "foo 1;");
        fault(0, "coo");
        fault(0, "coo 1;");
        fault(0, "cooL 1;");
        fault(0, "cools 1;");
        fault(0, "coolz 1;");
        fault(0, "acool 1;");
        fault(0, "pool 1;");
        fault(0, "cow 1 1 1;");
        fault(0, "clientclient;");
        fault(0, "x");
        fault(3, "   x");
        fault(4, "cool");
        fault(5, "cool ");
        fault(6, "cool 1");
        fault(7, "cool 1 ");
        fault(4, "cool;");
        fault(5, "cool ;");
        fault(4, "cool1;");
        fault(4, "coolA;");
        fault(5, "cool -1;");
        fault(9, "cool 00001;");
        fault(9, "cool 12345");
        fault(6, "cool 1x;");
        fault(7, "cool 1 2;");
        fault(7, "cool 1;;");
        fault(7, "cool 1;coo");
        fault(8, "cool 1; coo");
        fault(11, "cool 1;cool");
        fault(6, "client");
        fault(6, "client1;");
        fault(7, "client 1;");
        fault(7, "client;foo;client;");
        fault(7, "label 2;");
        fault(8, "label 2 ;");
        fault(10, "label 2 2 2;");
        fault(15, "label 1234 12345;");
        fault(10, "label 12345");
        fault(10, "row 0 0 0 ,;");
        fault(7, "row 0 0;");
        fault(10, "rent 0 0 0");
        fault(11, "print 0 0 0");
        fault(8, "best 0 0");
        fault(9, "best 0 0 0;");
        fault(3, "new;");
        fault(6, "set 0 \n8;");
        fault(4, "head" + (char) 0);
        fault(4, "head" + (char) 127);
        fault(0, "" + (char) 127);
        fault(0, "newx 0;");
        fault(0, "ne");
        fault(0, "`;");
        fault(0, "{;");
        fault(5, "cool /;");
        fault(5, "cool :;");
    }

    /** A text without fault on a printer with a customer and a black label, and how many commands are carried out. */
    private static void runs(int done, String text) {
        WornDots x = HeadTest.withLabel(1, 1);
        Text.put(x, text);
        Check.gives("run of <" + text + ">", done, x::runCommands);
        Check.gives("the text stays", text.length(), () -> x.whole(17));
    }

    private static void texts() {
        runs(0, "");
        runs(0, " ");
        runs(0, "     ");
        runs(1, "cool 1;");
        runs(1, "   cool   1   ;   ");
        runs(1, "cool 0001;");
        runs(1, "client;");
        runs(1, "client  ;");
        runs(2, "client;client;");
        runs(2, " client ; client ; ");
        runs(3, "cool 1;new 11;best 0 0;");
        runs(1, "set 2 9999;");
        runs(0, "cool 0;");
        runs(0, "cool 9999;");
        runs(0, "new 12;cool 1;");
        runs(1, "cool 1;print 1 0 0;cool 1;");
        runs(1, "cool 1;print 0 0 24;cool 1;");
        runs(1, "cool 1;print 0 0 12;cool 1;");
    }

    private static void everyWord() {
        WornDots x = new WornDots();
        Check.gives("run", 9, () -> Text.run(x,
            "head 10;label 3 9;row 0 2 5;client;rent 0 4 8;print 0 0 5;best 0 0;cool 2;set 6 9;"));
        Check.gives("head", 10, () -> x.whole(0));
        Check.gives("label: width", 3, () -> x.label(0, 0));
        Check.gives("label: blackness", 9, () -> x.label(0, 1));
        Check.gives("row", 5, () -> x.row(0, 2));
        Check.gives("client", 1, () -> x.whole(9));
        Check.gives("rent: from", 4, () -> x.customer(0, 0));
        Check.gives("rent: to", 8, () -> x.customer(0, 1));
        Check.gives("print and best", 2, () -> x.customer(0, 4));
        Check.gives("print burnt", 9, () -> x.dot(5, 1));
        // At 4, 5 and 6 the price is the same, and as many cells are smeared everywhere.
        Check.gives("best burnt", 9, () -> x.dot(4, 1));
        Check.gives("cool: lines", 14, () -> x.whole(16));
        Check.gives("set", 9, () -> x.whole(7));
        Check.gives("run", 1, () -> Text.run(x, "new 5;"));
        Check.gives("new", 0, () -> x.dot(5, 1));
        Check.gives("the other dot", 9, () -> x.dot(7, 1));
    }

    /** Every number goes to its own argument. */
    private static void numbersInTheirPlaces() {
        WornDots x = new WornDots();
        Check.gives("run", 13, () -> Text.run(x,
            "client;client;client;label 4 5;label 6 3;set 0 30;label 5 1;row 2 1 16;row 1 3 9;head 20;rent 2 3 17;"
            + "print 2 1 5;best 2 1;"));
        Check.gives("label 1: width", 6, () -> x.label(1, 0));
        Check.gives("label 1: blackness", 3, () -> x.label(1, 1));
        Check.gives("row", 9, () -> x.row(1, 3));
        Check.gives("row", 16, () -> x.row(2, 1));
        Check.gives("set", 30, () -> x.whole(1));
        Check.gives("rent: from", 3, () -> x.customer(2, 0));
        Check.gives("rent: to", 17, () -> x.customer(2, 1));
        Check.gives("printed for it", 2, () -> x.customer(2, 4));
        Check.gives("printed of it", 2, () -> x.label(1, 3));
        Check.gives("print burnt", 3, () -> x.dot(8, 1));
        Check.gives("wears", 12, () -> x.whole(10));
        Check.gives("run", 4, () -> Text.run(x, "new 8;cool 7;set 6 50;set 4 3;"));
        Check.gives("new", 0, () -> x.dot(8, 1));
        Check.gives("lines", 19, () -> x.whole(16));
        Check.gives("set", 50, () -> x.whole(7));
        Check.gives("set", 3, () -> x.whole(5));
        Check.gives("run", 1, () -> Text.run(x, "best 2 1;"));
    }

    private static void stopsAtARefusal() {
        WornDots x = new WornDots();
        Check.gives("run", 2, () -> Text.run(x, "client;client;rent 2 0 0;client;"));
        Check.gives("those before it stay done", 2, () -> x.whole(9));
        Check.gives("rent", 1, () -> Text.run(x, "rent 0 0 3;rent 1 3 4;"));
        Check.gives("seven customers", 4, () -> Text.run(x, "client;client;client;client;client;"));
        Check.gives("seven labels", 6,
            () -> Text.run(x, "label 1 1;label 1 1;label 1 1;label 1 1;label 1 1;label 1 1;label 1 1;"));
        Check.gives("a white label", 0, () -> Text.run(x, "best 0 0;"));
        Check.gives("a black label", 2, () -> Text.run(x, "row 0 0 1;best 0 0;row 0 0 2;"));
    }

    private static void refusedWords() {
        String[] refused = {"head 3;", "head 25;", "label 0 1;", "label 13 1;", "label 1 10;", "row 0 0 0;",
            "rent 0 3 2;", "rent 0 0 12;", "print 0 0 0;", "best 0 0;", "cool 21;", "new 12;", "set 7 0;", "set 0 31;"};
        for (String text : refused) {
            WornDots x = new WornDots();
            Check.gives("run of <" + text + ">", 1, () -> Text.run(x, "cool 1;" + text + "cool 1;"));
            Check.gives("lines", 1, () -> x.whole(16));
            Check.gives("labels", 0, () -> x.whole(8));
        }
    }

    private static void savesOneState() {
        WornDots x = new WornDots();
        Check.gives("run", 3, () -> Text.run(x, "client;client;client;"));
        Check.gives("one state", 0, x::undo);
        Check.gives("from before the run", 0, () -> x.whole(9));
        Check.gives("the text stays", 21, () -> x.whole(17));
        Check.gives("run again", 3, x::runCommands);
        Check.gives("run once more", 3, x::runCommands);
        Check.gives("and more", 0, x::runCommands);
        Check.gives("a run that does nothing saves too", 2, x::undo);
        Check.gives("customers", 6, () -> x.whole(9));
        Check.gives("undo", 1, x::undo);
        Check.gives("customers", 3, () -> x.whole(9));
        x.clearCommands();
        Check.gives("an empty text", 0, x::runCommands);
        Check.gives("saves a state", 1, x::undo);
    }

    /** What was typed before the text was emptied must not be read. */
    private static void bytesThatAreGone() {
        String[] texts = {"coo", "cool", "cool ", "cool 1", "cool 12", "cool 12 "};
        int[] faults = {0, 4, 5, 6, 7, 8};
        for (int i = 0; i < texts.length; i++) {
            WornDots x = new WornDots();
            Text.put(x, "cool 12 ; cool 1;");
            String text = texts[i];
            Check.gives("fault of <" + text + ">", -10 - faults[i], () -> Text.run(x, text));
        }
        WornDots x = new WornDots();
        Text.put(x, "cool 1;cool 2;");
        Check.gives("one command", 1, () -> Text.run(x, "cool 3;"));
        Check.gives("lines", 3, () -> x.whole(16));
    }

    /** Each text on a printer of its own: typing 150 bytes takes 150 of the 512 calls that are promised. */
    private static void longestText() {
        Check.gives("25 commands", 25, () -> runOnNew("new 0;".repeat(25)));
        Check.gives("ends too soon", -160, () -> runOnNew("new 0;".repeat(24) + "new 0 "));
        Check.gives("the last byte", -159, () -> runOnNew("new 0;".repeat(24) + "new 0x"));
        Check.gives("one long word", -10, () -> runOnNew("a".repeat(150)));
        Check.gives("spaces alone", 0, () -> runOnNew(" ".repeat(150)));
        Check.gives("one command", 1, () -> runOnNew("client" + " ".repeat(143) + ";"));
    }

    private static int runOnNew(String text) {
        return Text.run(new WornDots(), text);
    }
}
