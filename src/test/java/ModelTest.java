import java.util.Random;

/** Long runs of calls, told beforehand by fixed seeds, answered by the program and by the model. */
final class ModelTest {

    private static final int RUNS = 600;
    /** What later calls answer is free. */
    private static final int CALLS = 512;
    private static final int[] FAR = {Integer.MIN_VALUE, Integer.MAX_VALUE, -1, -2, 1 << 30, 64, 256};
    private static final String[] COMMANDS = {"head n", "label w b", "row l r c", "client", "rent k f t",
        "print k l o", "print k l o", "best k l", "best k l", "cool n", "new d", "set w v"};

    private final Random random;
    private final WornDots x = new WornDots();
    private final Model model = new Model();
    private final int run;
    private int calls;

    private ModelTest(int run) {
        this.run = run;
        this.random = new Random(run);
    }

    public static void main(String[] args) {
        for (int run = 0; run < RUNS; run++) {
            new ModelTest(run).calls();
        }
        Check.end();
    }

    private void calls() {
        int start = random.nextInt(3);
        for (int i = 0; calls < CALLS; i++) {
            if (i < 40 && start > 0) {
                setUp(i);
            } else {
                anyCall();
            }
            if (i % 16 == 15) {
                due("digest()", model::digest, x::digest);
            }
        }
    }

    private void due(String name, Check.Call wanted, Check.Call got) {
        if (calls == CALLS) {
            return;
        }
        calls++;
        Check.compare("run " + run + ": " + name, Check.outcome(wanted), Check.outcome(got));
    }

    /** A number from 0 to below bound, and now and then one just beside that, or far off. */
    private int near(int bound) {
        int dice = random.nextInt(60);
        if (dice == 0) {
            return FAR[random.nextInt(FAR.length)];
        }
        return dice == 1 ? bound : dice == 2 ? -1 : random.nextInt(bound);
    }

    private int customer() {
        return near(Math.max(1, model.whole(9)));
    }

    private int label() {
        return near(Math.max(1, model.whole(8)));
    }

    private int dot() {
        return near(model.whole(0));
    }

    private int offset() {
        return random.nextInt(4) == 0 ? near(24) : dot();
    }

    private int value(int what) {
        int[] high = {31, 91, 60, 30, 4, 21, 101, 3};
        return near(high[what < 0 || what > 6 ? 7 : what]);
    }

    private void setUp(int i) {
        switch (i % 5) {
            case 0 -> call(2);
            case 1 -> call(6);
            default -> call(3);
        }
    }

    private void anyCall() {
        int[] often = {0, 1, 1, 1, 2, 3, 3, 4, 5, 6, 7, 7, 7, 8, 9, 9, 9, 9, 9, 10, 10, 10, 11, 12, 13, 14, 15,
            16, 17, 18, 19, 20, 21, 22, 23, 23, 24};
        call(often[random.nextInt(often.length)]);
    }

    private void call(int which) {
        if (which < 11) {
            change(which);
        } else {
            ask(which);
        }
    }

    private void change(int which) {
        int a;
        int b;
        int c;
        switch (which) {
            case 0 -> due("begin(" + (a = near(27)) + ")", one(model::begin, a), one(x::begin, a));
            case 1 -> due("set(" + (a = near(7)) + ", " + (b = value(a)) + ")", two(model::set, a, b),
                two(x::set, a, b));
            case 2 -> due("addLabel(" + (a = near(13)) + ", " + (b = near(10)) + ")", two(model::addLabel, a, b),
                two(x::addLabel, a, b));
            case 3 -> due("setRow(" + (a = label()) + ", " + (b = near(6)) + ", " + (c = cells(a)) + ")",
                three(model::setRow, a, b, c), three(x::setRow, a, b, c));
            case 4 -> due("replace(" + (a = dot()) + ")", one(model::replace, a), one(x::replace, a));
            case 5 -> due("cool(" + (a = near(21)) + ")", one(model::cool, a), one(x::cool, a));
            case 6 -> due("addCustomer()", model::addCustomer, x::addCustomer);
            case 7 -> due("rent(" + (a = customer()) + ", " + (b = dot()) + ", "
                    + (c = random.nextInt(4) == 0 ? dot() : Math.min(b, 99) + random.nextInt(5)) + ")",
                three(model::rent, a, b, c), three(x::rent, a, b, c));
            case 8 -> due("endRent(" + (a = customer()) + ")", one(model::endRent, a), one(x::endRent, a));
            case 9 -> due("print(" + (a = customer()) + ", " + (b = label()) + ", " + (c = offset()) + ")",
                three(model::print, a, b, c), three(x::print, a, b, c));
            default -> due("printBest(" + (a = customer()) + ", " + (b = label()) + ")", two(model::printBest, a, b),
                two(x::printBest, a, b));
        }
    }

    private int cells(int label) {
        int width = label >= 0 && label < model.whole(8) ? model.label(label, 0) : 3;
        return near(1 << width);
    }

    private void ask(int which) {
        int a;
        int b;
        int c;
        switch (which) {
            case 11 -> due("dot(" + (a = dot()) + ", " + (b = near(5)) + ")", two(model::dot, a, b), two(x::dot, a, b));
            case 12 -> due("label(" + (a = label()) + ", " + (b = near(6)) + ")", two(model::label, a, b),
                two(x::label, a, b));
            case 13 -> due("row(" + (a = label()) + ", " + (b = near(6)) + ")", two(model::row, a, b),
                two(x::row, a, b));
            case 14 -> due("customer(" + (a = customer()) + ", " + (b = near(6)) + ")", two(model::customer, a, b),
                two(x::customer, a, b));
            case 15 -> due("whole(" + (a = near(18)) + ")", one(model::whole, a), one(x::whole, a));
            case 16, 17, 18, 19 -> askAbout(which);
            case 20 -> due("bestOffset(" + (a = customer()) + ", " + (b = label()) + ")",
                two(model::bestOffset, a, b), two(x::bestOffset, a, b));
            case 21 -> due("mostWorn()", model::mostWorn, x::mostWorn);
            case 22 -> due("type(" + (a = near(128)) + ")", one(model::type, a), one(x::type, a));
            case 23 -> run();
            default -> due("undo()", model::undo, x::undo);
        }
    }

    private void askAbout(int which) {
        int a = customer();
        int b = label();
        int c = offset();
        String where = "(" + a + ", " + b + ", " + c + ")";
        switch (which) {
            case 16 -> due("reason" + where, three(model::reason, a, b, c), three(x::reason, a, b, c));
            case 17 -> due("price" + where, three(model::price, a, b, c), three(x::price, a, b, c));
            case 18 -> due("unreadable" + where, three(model::unreadable, a, b, c), three(x::unreadable, a, b, c));
            default -> due("readableFor" + where, three(model::readableFor, a, b, c),
                three(x::readableFor, a, b, c));
        }
    }

    private void run() {
        if (random.nextInt(3) > 0) {
            String text = text();
            due("clearCommands()", model::clearCommands, x::clearCommands);
            for (int i = 0; i < text.length(); i++) {
                int value = text.charAt(i);
                due("type(" + value + ")", one(model::type, value), one(x::type, value));
            }
        }
        due("runCommands()", model::runCommands, x::runCommands);
    }

    private String text() {
        StringBuilder text = new StringBuilder();
        int count = random.nextInt(13);
        String same = command();
        boolean again = random.nextInt(4) == 0;
        for (int i = 0; i < count; i++) {
            text.append(again ? same : command());
        }
        spoil(text);
        return text.substring(0, Math.min(text.length(), 150 + random.nextInt(3)));
    }

    private String command() {
        String form = COMMANDS[random.nextInt(COMMANDS.length)];
        StringBuilder command = new StringBuilder(spaces(0));
        for (String part : form.split(" ")) {
            if (part.length() > 1) {
                command.append(part);
            } else {
                command.append(spaces(1)).append(number(part));
            }
        }
        return command.append(spaces(0)).append(';').toString();
    }

    private String number(String part) {
        int bound = switch (part) {
            case "k" -> Math.max(1, model.whole(9));
            case "l" -> Math.max(1, model.whole(8));
            case "o", "d", "f", "t" -> model.whole(0);
            case "r" -> 6;
            case "w" -> 7;
            case "b" -> 10;
            default -> 24;
        };
        int number = random.nextInt(bound) + (random.nextInt(60) == 0 ? bound : 0);
        String zeros = random.nextInt(12) == 0 ? "00" : "";
        return zeros + number;
    }

    private String spaces(int least) {
        int dice = random.nextInt(24);
        return "   ".substring(0, least + (dice == 0 ? 2 : dice == 1 ? 1 : 0));
    }

    /** Now and then a text with a fault. */
    private void spoil(StringBuilder text) {
        if (random.nextInt(4) > 0 || text.length() == 0) {
            return;
        }
        int at = random.nextInt(text.length());
        String signs = " ;0a9zZ{`/:x1";
        char sign = signs.charAt(random.nextInt(signs.length()));
        switch (random.nextInt(4)) {
            case 0 -> text.setCharAt(at, sign);
            case 1 -> text.deleteCharAt(at);
            case 2 -> text.insert(at, sign);
            default -> text.setLength(at);
        }
    }

    private interface One {
        int of(int a);
    }

    private interface Two {
        int of(int a, int b);
    }

    private interface Three {
        int of(int a, int b, int c);
    }

    private static Check.Call one(One f, int a) {
        return () -> f.of(a);
    }

    private static Check.Call two(Two f, int a, int b) {
        return () -> f.of(a, b);
    }

    private static Check.Call three(Three f, int a, int b, int c) {
        return () -> f.of(a, b, c);
    }
}
