/** The boundary cases of texts of commands: promises 24 to 26. */
final class TextEdgeTest {

    private static final int MIN = Integer.MIN_VALUE;
    private static final int MAX = Integer.MAX_VALUE;

    /** Every word with the numbers that it needs, and one of each that can be carried out on a busy printer. */
    private static final String[] WORDS = {"head", "label", "row", "client", "rent", "print", "best", "cool", "new",
        "set"};
    private static final int[] NUMBERS = {1, 2, 3, 0, 3, 3, 2, 1, 1, 2};
    private static final String[] FINE = {"head 24", "label 12 9", "row 1 4 2049", "client", "rent 2 6 9", "print 2 0 7",
        "best 1 0", "cool 20", "new 9", "set 2 9999"};

    private TextEdgeTest() {
    }

    public static void main(String[] args) {
        rangeOfBytes();
        mostBytes();
        lengthOfTheText();
        typeIsNotUndoable();
        clearedLength();
        clearIsNotUndoable();
        textsWithoutCommands();
        emptyTexts();
        wordsOfLetters();
        unknownWords();
        wordsAtTheEnd();
        wordsAreComplete();
        numbersOfEachWord();
        digits();
        fifthDigit();
        zerosInFront();
        spaceInFrontOfANumber();
        spaces();
        semicolons();
        theFirstFault();
        endsTooSoon();
        faultsAtTheEnds();
        numbersOutOfRange();
        nothingIsDone();
        everyCommand();
        inTheirOrder();
        untilAnException();
        exceptionsOfEachWord();
        savesOneState();
        theTextStays();
        theLongestTexts();
        Check.end();
    }

    /** The text has its fault there, and a run of it changes nothing. */
    private static void fault(int place, String text) {
        WornDots x = Scene.busy();
        Text.put(x, text);
        long before = x.digest();
        Check.gives("run of '" + text + "'", -10 - place, x::runCommands);
        Check.gives("digest after '" + text + "'", before, x::digest);
        Check.gives("undo after '" + text + "'", 3, x::undo);
    }

    /** The text has no fault, and so many commands are carried out on a busy printer. */
    private static void runs(int done, String text) {
        WornDots x = Scene.busy();
        Check.gives("run of '" + text + "'", done, () -> Text.run(x, text));
        Check.gives("length of '" + text + "'", text.length(), () -> x.whole(17));
    }

    // ---- promise 24

    private static void rangeOfBytes() {
        Check.sentence("Throws `IllegalArgumentException` if value is out of range");
        int[] wrong = {-1, 128, 255, 256, -128, MIN, MAX};
        for (int value : wrong) {
            Twins.refuse("type(" + value + ")", Check.ARGUMENT, Scene::busy, x -> x.type(value));
        }
        Check.sentence("`value`: 0 to 127");
        int[] fine = {0, 1, 31, 32, 59, 126, 127};
        for (int value : fine) {
            WornDots x = new WornDots();
            Check.gives("type(" + value + ")", 1, () -> x.type(value));
            Check.gives("the byte " + value + " stands", value == 32 ? 0 : -10, x::runCommands);
        }
    }

    private static void mostBytes() {
        Check.sentence("Throws `IllegalStateException` if the text has 150 bytes");
        Twins.refuse("the 151st byte", Check.STATE, Scene::full, x -> x.type(32));
        Twins.refuse("the 151st byte", Check.STATE, Scene::full, x -> x.type(0));
        Twins.refuse("the 151st byte", Check.STATE, Scene::full, x -> x.type(127));
        Check.sentence("If several exceptions of a method apply, the one that is listed first is thrown.");
        Twins.refuse("the 151st byte out of range", Check.ARGUMENT, Scene::full, x -> x.type(128));
        Twins.refuse("the 151st byte out of range", Check.ARGUMENT, Scene::full, x -> x.type(-1));
    }

    private static void lengthOfTheText() {
        Check.sentence("Returns the length of the text.");
        WornDots x = new WornDots();
        for (int i = 1; i < 151; i++) {
            Check.gives("type", i, () -> x.type(97));
        }
        Check.gives("length", 150, () -> x.whole(17));
        Check.refuses("the 151st byte", Check.STATE, () -> x.type(97));
        Check.gives("length", 150, () -> x.whole(17));
        Check.gives("clearCommands", 150, x::clearCommands);
        Check.gives("type", 1, () -> x.type(97));
    }

    private static void typeIsNotUndoable() {
        Check.sentence("saves the whole state but the command text on an undo stack");
        WornDots x = new WornDots();
        x.type(99);
        Check.refuses("undo", Check.STATE, x::undo);
        x.cool(1);
        x.type(99);
        Check.gives("undo", 0, x::undo);
        Check.gives("length", 2, () -> x.whole(17));
    }

    // ---- promise 25

    private static void clearedLength() {
        Check.sentence("Returns the length that it had.");
        Check.gives("none", 0, () -> new WornDots().clearCommands());
        Check.gives("some", 20, () -> Scene.busy().clearCommands());
        Check.gives("the most", 150, () -> Scene.full().clearCommands());
        WornDots x = Scene.busy();
        x.clearCommands();
        Check.gives("length", 0, () -> x.whole(17));
        Check.gives("none any more", 0, x::clearCommands);
        Check.gives("nothing to run", 0, x::runCommands);
    }

    private static void clearIsNotUndoable() {
        Check.sentence("Empties the command text.");
        WornDots x = Scene.busyWithThreeStates();
        x.clearCommands();
        Check.gives("undo", 2, x::undo);
        Check.gives("length", 0, () -> x.whole(17));
        WornDots y = Scene.busyWithThreeStates();
        y.clearCommands();
        Text.put(y, "cool 3;client;new 1;");
        Twins.alike("clearCommands and the same text", Scene::busyWithThreeStates, y);
    }

    // ---- promise 26: the texts

    private static void textsWithoutCommands() {
        Check.sentence("a text that is empty, or has spaces alone, has no fault");
        runs(0, "");
        runs(0, " ");
        runs(0, "  ");
        runs(0, " ".repeat(150));
    }

    private static void emptyTexts() {
        Check.sentence("Runs the command text, which stays as it is. Undoable, if it has no fault.");
        String[] texts = {"", " "};
        for (String text : texts) {
            WornDots x = new WornDots();
            Check.gives("run", 0, () -> Text.run(x, text));
            Check.gives("undo", 0, x::undo);
            Check.refuses("undo", Check.STATE, x::undo);
        }
    }

    private static void wordsOfLetters() {
        Check.sentence("each of which is a word of letters a to z");
        fault(0, ";");
        fault(0, "1;");
        fault(0, "Cool 1;");
        fault(0, "COOL 1;");
        fault(0, "`cool 1;");
        fault(0, "{cool 1;");
        fault(1, " \t");
        fault(1, " ;");
        fault(0, "" + (char) 0);
        fault(0, "" + (char) 127);
        fault(0, "\n");
        fault(7, "cool 1;;");
        fault(8, "cool 1; ;");
        fault(7, "cool 1;1");
    }

    private static void unknownWords() {
        Check.sentence("A word that is not one of these is at fault with its first byte");
        String[] words = {"a", "z", "x", "coo", "cools", "cooll", "ool", "coool", "cooo", "dool", "co", "c", "clientt",
            "clien", "heads", "hea", "labels", "labe", "rows", "ro", "rowrow", "rents", "ren", "prints", "prin",
            "bests", "bes", "news", "ne", "sets", "se", "undo", "type", "begin", "replace", "printbest", "headlabel",
            "rov", "sew", "net", "ent", "clientclient", "z".repeat(140)};
        for (String word : words) {
            fault(0, word + " 1;");
            fault(2, "  " + word + ";");
            fault(7, "cool 1;" + word);
        }
    }

    private static void wordsAtTheEnd() {
        Check.sentence("or the end of the text, follows it.");
        for (int i = 0; i < WORDS.length; i++) {
            for (int end = 1; end < WORDS[i].length(); end++) {
                fault(0, WORDS[i].substring(0, end));
                fault(3, "   " + WORDS[i].substring(0, end));
            }
            fault(WORDS[i].length(), WORDS[i]);
            fault(0, WORDS[i] + "a");
            fault(0, WORDS[i] + "z");
        }
    }

    private static void wordsAreComplete() {
        Check.sentence("found when the word is complete: when a byte that is no letter");
        char[] bytes = {0, 31, '!', '/', '0', '9', ':', '@', 'A', 'Z', '[', '_', '`', '{', '~', 127};
        for (char b : bytes) {
            fault(0, "coo" + b);
            fault(4, "cool" + b);
            fault(6, "client" + b);
            fault(3, "new" + b + ";");
        }
        fault(0, "coo;");
        fault(4, "cool;");
        fault(0, "coo 1;");
        fault(0, "cooL 1;");
        fault(3, "newL 1;");
    }

    private static void numbersOfEachWord() {
        Check.sentence("followed by its numbers");
        for (int i = 0; i < WORDS.length; i++) {
            StringBuilder text = new StringBuilder(WORDS[i]);
            for (int n = 0; n < NUMBERS[i]; n++) {
                fault(text.length(), text + ";");
                fault(text.length() + 1, text + " ;");
                fault(text.length(), text.toString());
                fault(text.length() + 1, text + " ");
                text.append(" 0");
            }
            fault(text.length(), text.toString());
            fault(text.length() + 1, text + " ");
            fault(text.length() + 1, text + " 0;");
            Check.compare(text + "; has no fault", "true",
                Boolean.toString(Text.run(Scene.busy(), text + ";") >= 0));
        }
    }

    private static void digits() {
        Check.sentence("each of one to four digits");
        runs(1, "cool 1;");
        runs(1, "cool 10;");
        runs(1, "set 2 100;");
        runs(1, "set 2 1000;");
        runs(1, "set 2 9999;");
        char[] bytes = {'/', ':', '-', '+', '.', 'a', 'z', 'A', 0, 9, 10, 127};
        for (char b : bytes) {
            fault(5, "cool " + b + "1;");
            fault(6, "cool 1" + b + ";");
            fault(9, "cool 0001" + b + ";");
        }
        WornDots x = Scene.busy();
        Text.run(x, "set 2 9876;");
        Check.gives("all four digits count", 9876, () -> x.whole(3));
    }

    private static void fifthDigit() {
        Check.sentence("a fifth digit cannot stand");
        fault(9, "cool 00001;");
        fault(9, "cool 12345;");
        fault(9, "cool 12345");
        fault(9, "cool 123456789;");
        fault(10, "label 11111 1;");
        fault(15, "label 1111 11111;");
        fault(8, "row 99990 0 0;");
        fault(10, "row 0 00000 0;");
        fault(18, "row 0000 0000 0000" + "0;");
        runs(0, "row 9999 9999 9999;");
    }

    private static void zerosInFront() {
        Check.sentence("zeros in front are allowed");
        WornDots x = Scene.busy();
        Check.gives("run", 4, () -> Text.run(x, "cool 0002;set 02 0042;cool 010;set 0 0000;"));
        Check.gives("lines", 24, () -> x.whole(16));
        Check.gives("setting 2", 42, () -> x.whole(3));
        Check.gives("setting 0", 0, () -> x.whole(1));
        runs(0, "cool 0;");
        runs(0, "cool 0000;");
        runs(1, "cool 0001;");
        runs(1, "cool 0020;");
        runs(0, "cool 0021;");
    }

    private static void spaceInFrontOfANumber() {
        Check.sentence("and with at least one space (byte 32) in front, and a semicolon.");
        fault(4, "cool1;");
        fault(5, "label1 1;");
        fault(7, "label 1,1;");
        fault(4, "cool\t1;");
        fault(5, "cool \t1;");
        fault(4, "cool\n1;");
        fault(4, "cool" + (char) 31 + "1;");
        fault(4, "cool!1;");
        runs(1, "cool 1;");
        runs(1, "cool  1;");
        runs(1, "cool" + " ".repeat(144) + "1;");
        runs(1, "row  0   0    7;");
    }

    private static void spaces() {
        Check.sentence("Spaces may also stand in front of a command, in front of a semicolon, and at the end.");
        runs(1, " client;");
        runs(1, "   client;");
        runs(1, "client ;");
        runs(1, "client   ;");
        runs(1, "client; ");
        runs(1, "client;   ");
        runs(2, "client; client;");
        runs(2, "  client  ;  cool  1  ;  ");
        runs(2, "cool 1 ;cool 1 ;");
        fault(6, "client\t;");
        fault(7, "client;\t");
        fault(7, "client \t;");
        fault(4, "cool; 1;");
        fault(0, "c lient;");
        fault(7, "cool 1 0;");
    }

    private static void semicolons() {
        Check.sentence("and a semicolon.");
        fault(6, "cool 1:");
        fault(6, "cool 1<");
        fault(6, "cool 1,cool 1;");
        fault(7, "cool 1 cool 1;");
        fault(6, "client:");
        fault(7, "client client;");
        runs(2, "cool 1;cool 1;");
    }

    private static void theFirstFault() {
        Check.sentence("The fault of a command text is the index of the first byte that cannot stand at its place");
        fault(5, "cool client 1;");
        fault(6, "new 1 cool;");
        fault(4, "cool;new;");
        fault(0, "x;y;");
        fault(4, "new new 1;cool");
        fault(8, "label 1 set 1;x");
        fault(7, "cool 1 2;cool 1 2;");
        fault(0, "x cool 1;client 1;");
        fault(9, "cool 00001;cool;");
        fault(7, "client;clien;client 1;");
    }

    private static void endsTooSoon() {
        Check.sentence("or the length of the text if it ends too soon.");
        String[] starts = {"cool", "cool ", "cool 1", "cool 1 ", "cool 0001", "client", "client ", "row", "row ",
            "row 0", "row 0 ", "row 0 0", "row 0 0 ", "row 0 0 0", "row 0 0 0 ", "cool 1;client", "cool 1; new ",
            " cool   ", "rent 0 0 0000", "print 2 0", "best 0 ", "set", "label 1", "head "};
        for (String start : starts) {
            fault(start.length(), start);
        }
        fault(150, "cool 1" + " ".repeat(144));
        fault(150, "cool" + " ".repeat(146));
        fault(150, "client;".repeat(21) + "new");
    }

    private static void faultsAtTheEnds() {
        Check.sentence("Returns the number of commands that were carried out; -10 minus the fault if it has one.");
        fault(0, "x");
        fault(149, "client" + " ".repeat(143) + "x");
        fault(149, "client;".repeat(21) + "  x");
        fault(147, "client;".repeat(21) + "x");
        fault(147, "client;".repeat(21) + "xyz");
        fault(147, "client;".repeat(21) + "ne;");
        runs(3, "client;".repeat(21) + "   ");
        runs(3, "client;".repeat(21));
    }

    private static void numbersOutOfRange() {
        Check.sentence("(That a number is out of its range is no fault.)");
        String[] texts = {"head 9999;", "label 0 0;", "row 9 9 9999;", "rent 9 9999 0;", "print 9 9 99;", "best 6 6;",
            "cool 9999;", "new 9999;", "set 9 9999;", "head 3;", "cool 0;", "cool 21;", "set 7 1;", "row 0 6 0;",
            "row 0 0 8;", "print 0 0 24;"};
        for (String text : texts) {
            runs(0, text);
            runs(1, "client;" + text);
            runs(1, "client;" + text + "client;");
        }
    }

    // ---- promise 26: the run

    private static void nothingIsDone() {
        Check.sentence("if it has a fault, nothing is done");
        fault(7, "cool 1;x");
        fault(14, "client;client;1");
        fault(140, "client;".repeat(20) + ";");
        for (String command : FINE) {
            fault(command.length() + 1, command + ";;");
        }
        WornDots x = Scene.busy();
        Text.put(x, "client;cool 1;x");
        x.runCommands();
        WornDots y = Scene.busy();
        Text.put(y, "client;cool 1;x");
        Twins.alike("a run with a fault", () -> y, x);
    }

    private static void everyCommand() {
        Check.sentence("The words are: head n (begin(n)), label w b (addLabel(w, b)), row l r c (setRow(l, r, c)), "
            + "client (addCustomer()), rent k f t (rent(k, f, t)), print k l o (print(k, l, o)), best k l "
            + "(printBest(k, l)), cool n (cool(n)), new d (replace(d)), set w v (set(w, v)).");
        Twins.Use[] calls = {x -> x.begin(24), x -> x.addLabel(12, 9), x -> x.setRow(1, 4, 2049), WornDots::addCustomer,
            x -> x.rent(2, 6, 9), x -> x.print(2, 0, 7), x -> x.printBest(1, 0), x -> x.cool(20), x -> x.replace(9),
            x -> x.set(2, 9999)};
        for (int i = 0; i < FINE.length; i++) {
            String text = FINE[i] + ";";
            Twins.Use call = calls[i];
            WornDots x = Scene.busy();
            Text.put(x, text);
            Check.gives("run of '" + text + "'", 1, x::runCommands);
            Twins.alike("the run of '" + text + "' but for its call", () -> {
                WornDots y = Scene.busy();
                Text.put(y, text);
                call.on(y);
                return y;
            }, x);
        }
    }

    private static void inTheirOrder() {
        Check.sentence("otherwise the commands are carried out in their order");
        WornDots x = new WornDots();
        Check.gives("run", 3, () -> Text.run(x, "cool 1;set 0 7;set 0 9;"));
        Check.gives("the last one counts", 9, () -> x.whole(1));
        Check.gives("what is made is there for the next ones", 5,
            () -> Text.run(x, "client;label 1 1;row 0 0 1;print 0 0 0;rent 0 0 0;"));
        Check.gives("but not for those before", 0, () -> Text.run(x, "print 1 0 0;client;"));
    }

    private static void untilAnException() {
        Check.sentence("until one of them would throw an exception, which is not thrown; those before it stay done, and "
            + "they alone count.");
        WornDots x = new WornDots();
        Check.gives("none", 0, () -> Text.run(x, "new 12;client;client;"));
        Check.gives("customers", 0, () -> x.whole(9));
        Check.gives("one", 1, () -> Text.run(x, "client;new 12;client;"));
        Check.gives("customers", 1, () -> x.whole(9));
        Check.gives("the second of three of the same", 2, () -> Text.run(x, "rent 0 0 0;client;rent 1 0 0;rent 1 1 1;"));
        Check.gives("rented", 1, () -> x.whole(15));
        Check.gives("all", 2, () -> Text.run(x, "rent 1 1 1;rent 0 0 0;"));
        Check.gives("rented", 2, () -> x.whole(15));
    }

    private static void exceptionsOfEachWord() {
        Check.sentence("until one of them would throw an exception, which is not thrown");
        String[] refused = {"head 3", "head 25", "label 0 1", "label 13 1", "label 1 0", "label 1 10", "row 3 0 0",
            "row 0 6 0", "row 0 0 8", "row 1 0 4096", "rent 3 6 6", "rent 2 10 10", "rent 2 9 10", "rent 2 7 6",
            "rent 2 3 3", "print 3 0 0", "print 0 3 0", "print 0 0 24", "print 0 0 8", "print 0 0 3", "print 0 2 0",
            "best 3 0", "best 0 3", "best 0 1", "best 0 2", "cool 0", "cool 21", "new 10", "set 7 0", "set 0 31",
            "set 1 9", "set 1 91", "set 3 0", "set 3 101", "set 4 9", "set 5 21", "set 6 0", "set 6 101"};
        for (String command : refused) {
            String text = command + ";new 0;";
            WornDots x = Scene.busyWithThreeStates();
            Check.gives("run of '" + text + "'", 0, () -> Text.run(x, text));
            Check.gives("wear of dot 0", 13, () -> x.dot(0, 1));
            Check.gives("undo", 3, x::undo);
            Twins.alike("a run of '" + text + "', undone", () -> {
                WornDots y = Scene.busyWithThreeStates();
                Text.put(y, text);
                return y;
            }, x);
        }
        WornDots full = Scene.full();
        Check.gives("a seventh customer", 1, () -> Text.run(full, "new 0;client;new 0;"));
        Check.gives("a seventh label", 1, () -> Text.run(full, "new 0;label 1 1;new 0;"));
        Check.gives("customers", 6, () -> full.whole(9));
        Check.gives("labels", 6, () -> full.whole(8));
    }

    private static void savesOneState() {
        Check.sentence("A run saves one state, the one from before it; its commands save none.");
        String[] texts = {"client;label 1 1;cool 3;new 0;set 1 50;", "client;", "new 99;", "", "   ",
            "new 0;".repeat(24) + "new 99"};
        int[] left = {3, 3, 3, 3, 3, 2};
        for (int i = 0; i < texts.length; i++) {
            String text = texts[i];
            int due = left[i];
            WornDots x = Scene.busyWithThreeStates();
            Text.put(x, text);
            long before = x.digest();
            x.runCommands();
            Check.gives("undo of '" + text + "'", due, x::undo);
            Check.compare("digest as before '" + text + "'", Boolean.toString(due == 3),
                Boolean.toString(before == x.digest()));
        }
        WornDots x = new WornDots();
        for (int i = 0; i < 5; i++) {
            Text.put(x, "cool 1;cool 1;");
            x.runCommands();
        }
        for (int i = 0; i < 4; i++) {
            int runs = 4 - i;
            Check.gives("undo", runs - 1, x::undo);
            Check.gives("lines", 2 * runs, () -> x.whole(16));
        }
        Check.refuses("undo", Check.STATE, x::undo);
    }

    private static void theTextStays() {
        Check.sentence("Runs the command text, which stays as it is.");
        WornDots x = Scene.busy();
        Check.gives("run", 3, x::runCommands);
        Check.gives("length", 20, () -> x.whole(17));
        Check.gives("run again", 3, x::runCommands);
        Check.gives("undo", 3, x::undo);
        Check.gives("length after an undo", 20, () -> x.whole(17));
        Check.gives("type goes on behind it", 21, () -> x.type(' '));
        Check.gives("run once more", 3, x::runCommands);
        x.type('x');
        Check.gives("with a fault", -31, x::runCommands);
        Check.gives("length", 22, () -> x.whole(17));
    }

    private static void theLongestTexts() {
        Check.sentence("The command text has at most 150 bytes.");
        runs(25, "new 0;".repeat(25));
        runs(1, " ".repeat(144) + "new 0;");
        runs(1, "new 0;" + " ".repeat(144));
        fault(150, "new 0;".repeat(24) + "new 0 ");
        fault(149, "new 0;".repeat(24) + "new 0x");
        WornDots x = new WornDots();
        Text.put(x, "new 0;".repeat(25));
        Check.refuses("one byte more", Check.STATE, () -> x.type(';'));
        Check.gives("runs as before", 25, x::runCommands);
    }
}
