import java.util.ArrayDeque;
import java.util.ArrayList;
import java.util.Deque;
import java.util.List;
import java.util.regex.Matcher;
import java.util.regex.Pattern;

/**
 * The document once more, written another way than the program: dots that know who rents them,
 * deep copies for undo, a regular expression for the texts. It is slow, and free in what it uses.
 */
final class Model {

    private static final int[] LOW = {0, 10, 0, 1, 0, 0, 1};
    private static final int[] HIGH = {30, 90, 9999, 100, 8, 20, 100};
    private static final Pattern COMMANDS = Pattern.compile(
        "(?: *(?:(?:head|cool|new)N|(?:label|best|set)NN|(?:row|rent|print)NNN|client) *;)* *"
            .replace("N", " +[0-9]{1,4}"));
    private static final List<String> WORDS = List.of("head", "label", "row", "client", "rent", "print", "best",
        "cool", "new", "set");

    private static final class Dot {
        int heat;
        int wear;
        int burnt;
        int renter = -1;

        Dot copy() {
            Dot d = new Dot();
            d.heat = heat;
            d.wear = wear;
            d.burnt = burnt;
            d.renter = renter;
            return d;
        }
    }

    private static final class World {
        List<Dot> dots = new ArrayList<>();
        int[] settings = {8, 60, 100, 20, 1, 2, 5};
        /** Width, blackness, printed, not read, and six rows. */
        List<int[]> labels = new ArrayList<>();
        /** Paid, paid back, printed, not read. */
        List<int[]> customers = new ArrayList<>();
        int burnt;
        int printed;
        int failed;
        int lines;

        World copy() {
            World w = new World();
            for (Dot d : dots) {
                w.dots.add(d.copy());
            }
            w.settings = settings.clone();
            for (int[] label : labels) {
                w.labels.add(label.clone());
            }
            for (int[] customer : customers) {
                w.customers.add(customer.clone());
            }
            w.burnt = burnt;
            w.printed = printed;
            w.failed = failed;
            w.lines = lines;
            return w;
        }
    }

    private World w = new World();
    private String text = "";
    private final Deque<World> undo = new ArrayDeque<>();
    private boolean running;

    Model() {
        for (int i = 0; i < 12; i++) {
            w.dots.add(new Dot());
        }
    }

    private static void index(boolean fine) {
        if (!fine) {
            throw new IndexOutOfBoundsException();
        }
    }

    private static void argument(boolean fine) {
        if (!fine) {
            throw new IllegalArgumentException();
        }
    }

    private static void state(boolean fine) {
        if (!fine) {
            throw new IllegalStateException();
        }
    }

    private static boolean in(int value, int low, int high) {
        return value >= low && value <= high;
    }

    private void save() {
        if (!running) {
            undo.addLast(w.copy());
            if (undo.size() > 4) {
                undo.removeFirst();
            }
        }
    }

    private void needCustomer(int k) {
        index(in(k, 0, w.customers.size() - 1));
    }

    private void needLabel(int l) {
        index(in(l, 0, w.labels.size() - 1));
    }

    private void needDot(int d) {
        index(in(d, 0, w.dots.size() - 1));
    }

    private int sumOfWears() {
        return w.dots.stream().mapToInt(d -> d.wear).sum();
    }

    private int rented() {
        return (int) w.dots.stream().filter(d -> d.renter >= 0).count();
    }

    int begin(int dots) {
        argument(in(dots, 4, 24));
        save();
        int before = sumOfWears();
        w.dots.clear();
        for (int i = 0; i < dots; i++) {
            w.dots.add(new Dot());
        }
        return before;
    }

    int set(int what, int value) {
        argument(in(what, 0, 6));
        argument(in(value, LOW[what], HIGH[what]));
        save();
        int before = w.settings[what];
        w.settings[what] = value;
        return before;
    }

    int addLabel(int width, int blackness) {
        argument(in(width, 1, 12) && in(blackness, 1, 9));
        state(w.labels.size() < 6);
        save();
        int[] label = new int[10];
        label[0] = width;
        label[1] = blackness;
        w.labels.add(label);
        return w.labels.size() - 1;
    }

    int setRow(int label, int row, int cells) {
        needLabel(label);
        argument(in(row, 0, 5) && in(cells, 0, (int) Math.pow(2, w.labels.get(label)[0]) - 1));
        save();
        int before = w.labels.get(label)[4 + row];
        w.labels.get(label)[4 + row] = cells;
        return before;
    }

    int replace(int dot) {
        needDot(dot);
        save();
        Dot fresh = new Dot();
        fresh.renter = w.dots.get(dot).renter;
        return w.dots.set(dot, fresh).wear;
    }

    int cool(int lines) {
        argument(in(lines, 1, 20));
        save();
        for (int i = 0; i < lines; i++) {
            coolOnce();
        }
        w.lines += lines;
        return w.dots.stream().mapToInt(d -> d.heat).sum();
    }

    private void coolOnce() {
        for (Dot d : w.dots) {
            d.heat = d.heat < w.settings[0] ? 0 : d.heat - w.settings[0];
        }
    }

    int addCustomer() {
        state(w.customers.size() < 6);
        save();
        w.customers.add(new int[4]);
        return w.customers.size() - 1;
    }

    int rent(int customer, int from, int to) {
        needCustomer(customer);
        needDot(from);
        needDot(to);
        argument(to >= from);
        for (int i = from; i <= to; i++) {
            int renter = w.dots.get(i).renter;
            state(renter == -1 || renter == customer);
        }
        save();
        release(customer);
        for (int i = from; i <= to; i++) {
            w.dots.get(i).renter = customer;
        }
        return rented();
    }

    private int release(int customer) {
        int count = 0;
        for (Dot d : w.dots) {
            if (d.renter == customer) {
                d.renter = -1;
                count++;
            }
        }
        return count;
    }

    int endRent(int customer) {
        needCustomer(customer);
        state(customer(customer, 0) != -1);
        save();
        return release(customer);
    }

    private void needAll(int customer, int label, int offset) {
        needCustomer(customer);
        needLabel(label);
        argument(in(offset, 0, 23));
    }

    int print(int customer, int label, int offset) {
        needAll(customer, label, offset);
        state(reason(customer, label, offset) == 0);
        save();
        int price = price(customer, label, offset);
        int unread = burn(label, offset);
        boolean bad = unread > w.settings[5];
        w.lines += 6;
        w.printed++;
        w.customers.get(customer)[0] += price;
        w.customers.get(customer)[2]++;
        w.labels.get(label)[2]++;
        if (bad) {
            w.failed++;
            w.customers.get(customer)[1] += price;
            w.customers.get(customer)[3]++;
            w.labels.get(label)[3]++;
        }
        return unread;
    }

    /** Prints on the head of now; answers the number of cells that cannot be read. */
    private int burn(int label, int offset) {
        int[] l = w.labels.get(label);
        int unread = 0;
        for (int row = 0; row < 6; row++) {
            for (int i = 0; i < w.dots.size(); i++) {
                int column = i - offset;
                if (column < 0 || column >= l[0]) {
                    continue;
                }
                Dot d = w.dots.get(i);
                boolean black = Integer.toBinaryString(l[4 + row] + 4096).charAt(12 - column) == '1';
                if (!black) {
                    unread += d.heat > w.settings[1] ? 1 : 0;
                    continue;
                }
                unread += fade(d) > w.settings[4] ? 1 : 0;
                int units = Math.max(0, (int) Math.ceil((10 * l[1] - d.heat) / 10.0));
                d.burnt += units;
                w.burnt += units;
                d.wear = Math.min(9999, d.wear + units);
                d.heat = Math.max(d.heat, 10 * l[1]);
            }
            coolOnce();
        }
        return unread;
    }

    private int fade(Dot d) {
        return d.wear > w.settings[2] ? (d.wear - w.settings[2]) / w.settings[3] : 0;
    }

    int printBest(int customer, int label) {
        int best = bestOffset(customer, label);
        state(best != -1);
        print(customer, label, best);
        return best;
    }

    int dot(int dot, int what) {
        needDot(dot);
        argument(in(what, 0, 4));
        Dot d = w.dots.get(dot);
        return new int[] {d.heat, d.wear, d.renter, d.burnt, fade(d)}[what];
    }

    int label(int label, int what) {
        needLabel(label);
        argument(in(what, 0, 5));
        int[] l = w.labels.get(label);
        int black = 0;
        int empty = 0;
        for (int column = 0; column < l[0]; column++) {
            int here = 0;
            for (int row = 0; row < 6; row++) {
                here += l[4 + row] / (1 << column) % 2;
            }
            black += here;
            empty += here == 0 ? 1 << column : 0;
        }
        return new int[] {l[0], l[1], black, l[2], l[3], empty}[what];
    }

    int row(int label, int row) {
        needLabel(label);
        argument(in(row, 0, 5));
        return w.labels.get(label)[4 + row];
    }

    int customer(int customer, int what) {
        needCustomer(customer);
        argument(in(what, 0, 5));
        if (what > 1) {
            return w.customers.get(customer)[what - 2];
        }
        int found = -1;
        for (int i = 0; i < w.dots.size(); i++) {
            if (w.dots.get(i).renter == customer && (what == 1 || found == -1)) {
                found = i;
            }
        }
        return found;
    }

    int whole(int what) {
        argument(in(what, 0, 17));
        if (in(what, 1, 7)) {
            return w.settings[what - 1];
        }
        int money = 0;
        for (int[] c : w.customers) {
            money += c[0] - c[1];
        }
        int[] rest = {w.labels.size(), w.customers.size(), sumOfWears(), w.burnt, w.printed, w.failed, money,
            rented(), w.lines, text.length()};
        return what == 0 ? w.dots.size() : rest[what - 8];
    }

    int reason(int customer, int label, int offset) {
        needAll(customer, label, offset);
        boolean others = false;
        for (int i = offset; i < offset + w.labels.get(label)[0]; i++) {
            if (i >= w.dots.size()) {
                return 1;
            }
            int renter = w.dots.get(i).renter;
            others |= renter != -1 && renter != customer;
        }
        return others ? 2 : label(label, 2) == 0 ? 3 : 0;
    }

    int price(int customer, int label, int offset) {
        if (reason(customer, label, offset) != 0) {
            return -1;
        }
        int width = w.labels.get(label)[0];
        int price = label(label, 2) * w.labels.get(label)[1] * w.settings[6];
        List<Dot> under = w.dots.subList(offset, offset + width);
        if (under.stream().allMatch(d -> d.renter == customer)) {
            int discount = under.stream().mapToInt(d -> d.wear).sum() / width;
            return price * (1000 - (discount > 900 ? 900 : discount)) / 1000;
        }
        return price;
    }

    int unreadable(int customer, int label, int offset) {
        if (reason(customer, label, offset) != 0) {
            return -1;
        }
        World before = w;
        w = before.copy();
        int unread = burn(label, offset);
        w = before;
        return unread;
    }

    int bestOffset(int customer, int label) {
        needCustomer(customer);
        needLabel(label);
        long least = Long.MAX_VALUE;
        for (int offset = 0; offset < 24; offset++) {
            if (reason(customer, label, offset) == 0) {
                long rank = unreadable(customer, label, offset) * 100_000_000L
                    + price(customer, label, offset) * 100L + offset;
                least = Math.min(least, rank);
            }
        }
        return least == Long.MAX_VALUE ? -1 : (int) (least % 100);
    }

    int readableFor(int customer, int label, int offset) {
        if (reason(customer, label, offset) != 0) {
            return -1;
        }
        World before = w;
        w = before.copy();
        int times = 0;
        for (; times < 100; times++) {
            if (burn(label, offset) > w.settings[5]) {
                break;
            }
        }
        w = before;
        return times;
    }

    int mostWorn() {
        int most = w.dots.stream().mapToInt(d -> d.wear).max().orElse(0);
        for (int i = 0; i < w.dots.size(); i++) {
            if (w.dots.get(i).wear == most) {
                return i;
            }
        }
        return -1;
    }

    int type(int value) {
        argument(in(value, 0, 127));
        state(text.length() < 150);
        text += (char) value;
        return text.length();
    }

    int clearCommands() {
        int before = text.length();
        text = "";
        return before;
    }

    /** A start of a text can go on if a match fails only because the text is at its end. */
    private static boolean canGoOn(String start) {
        Matcher m = COMMANDS.matcher(start);
        return m.matches() || m.hitEnd();
    }

    static int fault(String text) {
        if (COMMANDS.matcher(text).matches()) {
            return -1;
        }
        int at = 0;
        while (at < text.length() && canGoOn(text.substring(0, at + 1))) {
            at++;
        }
        int start = text.lastIndexOf(';', at - 1) + 1;
        while (start < at && text.charAt(start) == ' ') {
            start++;
        }
        int end = start;
        while (end < text.length() && Character.isLowerCase(text.charAt(end))) {
            end++;
        }
        boolean inTheWord = at <= end && !WORDS.contains(text.substring(start, end));
        return inTheWord ? start : at;
    }

    int runCommands() {
        int fault = fault(text);
        if (fault != -1) {
            return -10 - fault;
        }
        save();
        running = true;
        int done = 0;
        for (String command : text.split(";")) {
            String[] parts = command.trim().split(" +");
            if (parts[0].isEmpty() || !carriesOut(parts)) {
                break;
            }
            done++;
        }
        running = false;
        return done;
    }

    private boolean carriesOut(String[] p) {
        int a = p.length > 1 ? Integer.parseInt(p[1]) : 0;
        int b = p.length > 2 ? Integer.parseInt(p[2]) : 0;
        int c = p.length > 3 ? Integer.parseInt(p[3]) : 0;
        try {
            switch (p[0]) {
                case "head" -> begin(a);
                case "label" -> addLabel(a, b);
                case "row" -> setRow(a, b, c);
                case "client" -> addCustomer();
                case "rent" -> rent(a, b, c);
                case "print" -> print(a, b, c);
                case "best" -> printBest(a, b);
                case "cool" -> cool(a);
                case "new" -> replace(a);
                default -> set(a, b);
            }
            return true;
        } catch (IndexOutOfBoundsException | IllegalArgumentException | IllegalStateException e) {
            return false;
        }
    }

    int undo() {
        state(!undo.isEmpty());
        w = undo.removeLast();
        return undo.size();
    }

    long digest() {
        List<Integer> values = new ArrayList<>();
        values.add(undo.size());
        for (int i = 0; i < 18; i++) {
            values.add(whole(i));
        }
        for (int d = 0; d < w.dots.size(); d++) {
            for (int i = 0; i < 5; i++) {
                values.add(dot(d, i));
            }
        }
        for (int l = 0; l < w.labels.size(); l++) {
            for (int i = 0; i < 12; i++) {
                values.add(i < 6 ? label(l, i) : row(l, i - 6));
            }
        }
        for (int k = 0; k < w.customers.size(); k++) {
            for (int i = 0; i < 6 + w.labels.size(); i++) {
                values.add(i < 6 ? customer(k, i) : bestOffset(k, i - 6));
            }
        }
        values.add(mostWorn());
        long hash = 43448;
        for (int value : values) {
            hash = 31 * hash + value;
        }
        return hash;
    }
}
