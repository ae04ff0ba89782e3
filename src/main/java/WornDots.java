/**
 * A label printer whose head has a row of dots that keep heat and wear.
 * What it must do is told in ../shared/DOC.md.
 */
public final class WornDots {

    /** Returned where there is no such value. */
    public static final int NONE = -1;

    private static final int MIN_DOTS = 4;
    private static final int MAX_DOTS = 24;
    private static final int FIRST_DOTS = 12;
    private static final int MAX_WEAR = 9999;
    private static final int MAX_OFFSET = 23;

    private static final int COOLING = 0;
    private static final int SMEAR_HEAT = 1;
    private static final int WEAR_LIMIT = 2;
    private static final int FADING = 3;
    private static final int TOLERANCE = 4;
    private static final int ALLOWANCE = 5;
    private static final int UNIT_PRICE = 6;
    private static final int SETTINGS = 7;
    private static final int[] LOWEST_SETTING = {0, 10, 0, 1, 0, 0, 1};
    private static final int[] HIGHEST_SETTING = {30, 90, 9999, 100, 8, 20, 100};
    private static final int[] FIRST_SETTING = {8, 60, 100, 20, 1, 2, 5};

    private static final int MAX_LABELS = 6;
    private static final int MAX_WIDTH = 12;
    private static final int MAX_BLACKNESS = 9;
    private static final int ROWS = 6;
    private static final int MAX_CUSTOMERS = 6;
    private static final int MAX_DISCOUNT = 900;
    private static final int MAX_IDLE_LINES = 20;
    private static final int MAX_READABLE = 100;

    private static final int DOT_VALUES = 5;
    private static final int LABEL_VALUES = 6;
    private static final int CUSTOMER_VALUES = 6;
    private static final int WHOLE_VALUES = 18;
    private static final int WHOLE_TEXT_LENGTH = 17;

    private static final int MAX_TEXT = 150;
    private static final int MAX_BYTE = 127;
    private static final int MAX_DIGITS = 4;
    private static final int MAX_NUMBERS = 3;
    private static final int FAULT_BASE = -10;
    private static final int UNDO_DEPTH = 4;
    private static final long HASH_START = 43448L;

    /** How a wish is refused, or FINE: told beforehand, so that a run of commands can stop without an exception. */
    private static final int FINE = 0;
    private static final int NO_SUCH_THING = 1;
    private static final int BAD_ARGUMENT = 2;
    private static final int BAD_STATE = 3;

    private static final Word[] WORDS = Word.values();

    private final CommandText text = new CommandText();
    private final State[] saved = new State[UNDO_DEPTH];
    private int savedCount;
    private final State now;

    public WornDots() {
        // All states share the trial head: no what-if question leaves anything behind in it.
        Head trial = new Head();
        now = new State(trial);
        for (int i = 0; i < UNDO_DEPTH; i++) {
            saved[i] = new State(trial);
        }
    }

    // ---- head and labels

    public int begin(int dots) throws IllegalArgumentException {
        refuse(now.whyNotNewHead(dots));
        save();
        return now.newHead(dots);
    }

    public int set(int what, int value) throws IllegalArgumentException {
        refuse(now.whyNotChangeSetting(what, value));
        save();
        return now.changeSetting(what, value);
    }

    public int addLabel(int width, int blackness) throws IllegalArgumentException, IllegalStateException {
        refuse(now.whyNotNewLabel(width, blackness));
        save();
        return now.newLabel(width, blackness);
    }

    public int setRow(int label, int row, int cells) throws IndexOutOfBoundsException, IllegalArgumentException {
        refuse(now.whyNotChangeRow(label, row, cells));
        save();
        return now.changeRow(label, row, cells);
    }

    public int replace(int dot) throws IndexOutOfBoundsException {
        refuse(now.whyNotNewDot(dot));
        save();
        return now.newDot(dot);
    }

    public int cool(int lines) throws IllegalArgumentException {
        refuse(now.whyNotPassLines(lines));
        save();
        return now.passLines(lines);
    }

    // ---- customers

    public int addCustomer() throws IllegalStateException {
        refuse(now.whyNotNewCustomer());
        save();
        return now.newCustomer();
    }

    public int rent(int customer, int from, int to)
            throws IndexOutOfBoundsException, IllegalArgumentException, IllegalStateException {
        refuse(now.whyNotLet(customer, from, to));
        save();
        return now.let(customer, from, to);
    }

    public int endRent(int customer) throws IndexOutOfBoundsException, IllegalStateException {
        refuse(now.whyNotEndLet(customer));
        save();
        return now.endLet(customer);
    }

    public int print(int customer, int label, int offset)
            throws IndexOutOfBoundsException, IllegalArgumentException, IllegalStateException {
        refuse(now.whyNotPrintAt(customer, label, offset));
        save();
        return now.printAt(customer, label, offset);
    }

    public int printBest(int customer, int label) throws IndexOutOfBoundsException, IllegalStateException {
        refuse(now.whyNotPrintAtBest(customer, label));
        save();
        return now.printAtBest(customer, label);
    }

    // ---- values

    public int dot(int dot, int what) throws IndexOutOfBoundsException, IllegalArgumentException {
        refuse(now.whyNotDotValue(dot, what));
        return now.dotValue(dot, what);
    }

    public int label(int label, int what) throws IndexOutOfBoundsException, IllegalArgumentException {
        refuse(now.whyNotLabelValue(label, what, LABEL_VALUES));
        return now.labels[label].value(what);
    }

    public int row(int label, int row) throws IndexOutOfBoundsException, IllegalArgumentException {
        refuse(now.whyNotLabelValue(label, row, ROWS));
        return now.labels[label].rows[row];
    }

    public int customer(int customer, int what) throws IndexOutOfBoundsException, IllegalArgumentException {
        refuse(now.whyNotCustomerValue(customer, what));
        return now.customers[customer].value(what);
    }

    public int whole(int what) throws IllegalArgumentException {
        refuse(what < 0 || what >= WHOLE_VALUES ? BAD_ARGUMENT : FINE);
        return what == WHOLE_TEXT_LENGTH ? text.length : now.wholeValue(what);
    }

    // ---- what if, which changes nothing

    public int reason(int customer, int label, int offset)
            throws IndexOutOfBoundsException, IllegalArgumentException {
        refuse(now.whyNotAskAbout(customer, label, offset));
        return now.reasonAt(customer, label, offset);
    }

    public int price(int customer, int label, int offset)
            throws IndexOutOfBoundsException, IllegalArgumentException {
        refuse(now.whyNotAskAbout(customer, label, offset));
        return now.reasonAt(customer, label, offset) != 0 ? NONE : now.priceAt(customer, label, offset);
    }

    public int unreadable(int customer, int label, int offset)
            throws IndexOutOfBoundsException, IllegalArgumentException {
        refuse(now.whyNotAskAbout(customer, label, offset));
        return now.reasonAt(customer, label, offset) != 0 ? NONE : now.unreadableAt(label, offset);
    }

    public int bestOffset(int customer, int label) throws IndexOutOfBoundsException {
        refuse(now.whyNotPair(customer, label));
        return now.bestPlace(customer, label);
    }

    public int readableFor(int customer, int label, int offset)
            throws IndexOutOfBoundsException, IllegalArgumentException {
        refuse(now.whyNotAskAbout(customer, label, offset));
        return now.reasonAt(customer, label, offset) != 0 ? NONE : now.readableAt(label, offset);
    }

    public int mostWorn() {
        return now.head.mostWornDot();
    }

    // ---- command text, undo and checksum

    public int type(int value) throws IllegalArgumentException, IllegalStateException {
        refuse(text.whyNotAppend(value));
        return text.append(value);
    }

    public int clearCommands() {
        return text.empty();
    }

    public int runCommands() {
        int fault = text.findFault();
        if (fault != NONE) {
            return FAULT_BASE - fault;
        }
        save();
        text.rewind();
        int done = 0;
        while (done < MAX_TEXT && text.readCommand() && now.whyNotCarryOut(text.word, text.numbers) == FINE) {
            now.carryOut(text.word, text.numbers);
            done++;
        }
        return done;
    }

    public int undo() throws IllegalStateException {
        refuse(savedCount < 1 ? BAD_STATE : FINE);
        savedCount--;
        now.takeOver(saved[savedCount]);
        return savedCount;
    }

    public long digest() {
        long hash = mix(HASH_START, savedCount);
        for (int what = 0; what < WHOLE_VALUES; what++) {
            hash = mix(hash, whole(what));
        }
        hash = mixDots(hash);
        hash = mixLabels(hash);
        hash = mixCustomers(hash);
        return mix(hash, mostWorn());
    }

    private long mixDots(long start) {
        long hash = start;
        for (int dot = 0; dot < now.head.dots; dot++) {
            for (int what = 0; what < DOT_VALUES; what++) {
                hash = mix(hash, now.dotValue(dot, what));
            }
        }
        return hash;
    }

    private long mixLabels(long start) {
        long hash = start;
        for (int i = 0; i < now.labelCount; i++) {
            Label label = now.labels[i];
            for (int what = 0; what < LABEL_VALUES; what++) {
                hash = mix(hash, label.value(what));
            }
            for (int row = 0; row < ROWS; row++) {
                hash = mix(hash, label.rows[row]);
            }
        }
        return hash;
    }

    private long mixCustomers(long start) {
        long hash = start;
        for (int i = 0; i < now.customerCount; i++) {
            for (int what = 0; what < CUSTOMER_VALUES; what++) {
                hash = mix(hash, now.customers[i].value(what));
            }
            for (int label = 0; label < now.labelCount; label++) {
                hash = mix(hash, now.bestPlace(i, label));
            }
        }
        return hash;
    }

    private static long mix(long hash, long value) {
        return 31 * hash + value;
    }

    /** Throws what a refusal stands for; nothing if it is FINE. */
    private static void refuse(int refusal) {
        if (refusal == NO_SUCH_THING) {
            throw new IndexOutOfBoundsException("there is no such dot, label or customer");
        }
        if (refusal == BAD_ARGUMENT) {
            throw new IllegalArgumentException("an argument is out of range");
        }
        if (refusal == BAD_STATE) {
            throw new IllegalStateException("this cannot be done now");
        }
    }

    /** Puts the state on the undo stack; the oldest saved one gives its place if the stack is full. */
    private void save() {
        if (savedCount == UNDO_DEPTH) {
            State oldest = saved[0];
            for (int i = 1; i < UNDO_DEPTH; i++) {
                saved[i - 1] = saved[i];
            }
            saved[UNDO_DEPTH - 1] = oldest;
            savedCount--;
        }
        saved[savedCount].takeOver(now);
        savedCount++;
    }

    /** The words of the command texts, and how many numbers follow each. */
    private enum Word {
        HEAD("head", 1),
        LABEL("label", 2),
        ROW("row", 3),
        CLIENT("client", 0),
        RENT("rent", 3),
        PRINT("print", 3),
        BEST("best", 2),
        COOL("cool", 1),
        NEW("new", 1),
        SET("set", 2);

        private final String letters;
        private final int numbers;

        Word(String letters, int numbers) {
            this.letters = letters;
            this.numbers = numbers;
        }
    }

    /** The head: its dots with their heat, wear and burnt units. */
    private static final class Head {
        private int dots = FIRST_DOTS;
        private int burntInAll;
        private final int[] heat = new int[MAX_DOTS];
        private final int[] wear = new int[MAX_DOTS];
        private final int[] burnt = new int[MAX_DOTS];

        void takeOver(Head other) {
            dots = other.dots;
            burntInAll = other.burntInAll;
            System.arraycopy(other.heat, 0, heat, 0, MAX_DOTS);
            System.arraycopy(other.wear, 0, wear, 0, MAX_DOTS);
            System.arraycopy(other.burnt, 0, burnt, 0, MAX_DOTS);
        }

        /**
         * Becomes a head of the dots that a label covers: those beside it have no part in how it is read.
         * What burnt before is left out, since no question asks for it.
         */
        void takePart(Head other, int from, int count) {
            dots = count;
            System.arraycopy(other.heat, from, heat, 0, count);
            System.arraycopy(other.wear, from, wear, 0, count);
        }

        /** Units burnt in all stay: they count the heads that are gone too. */
        void renewAll(int count) {
            dots = count;
            for (int dot = 0; dot < MAX_DOTS; dot++) {
                renew(dot);
            }
        }

        void renew(int dot) {
            heat[dot] = 0;
            wear[dot] = 0;
            burnt[dot] = 0;
        }

        void lose(int degrees) {
            for (int dot = 0; dot < dots; dot++) {
                heat[dot] = heat[dot] > degrees ? heat[dot] - degrees : 0;
            }
        }

        int heatSum() {
            int sum = 0;
            for (int dot = 0; dot < dots; dot++) {
                sum += heat[dot];
            }
            return sum;
        }

        int wearSum(int from, int to) {
            int sum = 0;
            for (int dot = from; dot <= to; dot++) {
                sum += wear[dot];
            }
            return sum;
        }

        int mostWornDot() {
            int most = 0;
            for (int dot = 1; dot < dots; dot++) {
                if (wear[dot] > wear[most]) {
                    most = dot;
                }
            }
            return most;
        }

        int fadeOf(int dot, int[] settings) {
            int beyond = wear[dot] - settings[WEAR_LIMIT];
            int fading = settings[FADING];
            return beyond < 1 || fading < 1 ? 0 : beyond / fading;
        }

        /** Prints the rows one after the other; answers how many cells cannot be read. */
        int printRows(Label label, int offset, int[] settings) {
            int unread = 0;
            for (int row = 0; row < ROWS; row++) {
                for (int column = 0; column < label.width; column++) {
                    int dot = offset + column;
                    boolean black = (label.rows[row] >> column & 1) == 1;
                    if (black ? fadeOf(dot, settings) > settings[TOLERANCE] : heat[dot] > settings[SMEAR_HEAT]) {
                        unread++;
                    }
                    if (black) {
                        burn(dot, 10 * label.blackness);
                    }
                }
                lose(settings[COOLING]);
            }
            return unread;
        }

        private void burn(int dot, int wanted) {
            if (heat[dot] >= wanted) {
                return;
            }
            int units = (wanted - heat[dot] + 9) / 10;
            burnt[dot] += units;
            burntInAll += units;
            wear[dot] = wear[dot] + units > MAX_WEAR ? MAX_WEAR : wear[dot] + units;
            heat[dot] = wanted;
        }
    }

    /** A label. Those to come stand ready, white and unprinted; undo brings them back so. */
    private static final class Label {
        private int width = 1;
        private int blackness = 1;
        private int printed;
        private int failed;
        private final int[] rows = new int[ROWS];

        void takeOver(Label other) {
            width = other.width;
            blackness = other.blackness;
            printed = other.printed;
            failed = other.failed;
            System.arraycopy(other.rows, 0, rows, 0, ROWS);
        }

        int allColumns() {
            return (1 << width) - 1;
        }

        int blackCells() {
            int count = 0;
            for (int row = 0; row < ROWS; row++) {
                count += Integer.bitCount(rows[row]);
            }
            return count;
        }

        int emptyColumns() {
            int used = 0;
            for (int row = 0; row < ROWS; row++) {
                used |= rows[row];
            }
            return allColumns() & ~used;
        }

        int value(int what) {
            switch (what) {
                case 0: return width;
                case 1: return blackness;
                case 2: return blackCells();
                case 3: return printed;
                case 4: return failed;
                default: return emptyColumns();
            }
        }
    }

    /** A customer. Those to come stand ready, without money and rent; undo brings them back so. */
    private static final class Customer {
        private int first = NONE;
        private int last = NONE;
        private int paid;
        private int paidBack;
        private int printed;
        private int failed;

        void takeOver(Customer other) {
            first = other.first;
            last = other.last;
            paid = other.paid;
            paidBack = other.paidBack;
            printed = other.printed;
            failed = other.failed;
        }

        void rentNothing() {
            first = NONE;
            last = NONE;
        }

        int rented() {
            return first == NONE ? 0 : last - first + 1;
        }

        boolean rentsOneOf(int from, int to) {
            return first != NONE && first <= to && from <= last;
        }

        boolean rentsAllOf(int from, int to) {
            return first != NONE && first <= from && to <= last;
        }

        int value(int what) {
            switch (what) {
                case 0: return first;
                case 1: return last;
                case 2: return paid;
                case 3: return paidBack;
                case 4: return printed;
                default: return failed;
            }
        }
    }

    /**
     * The whole state but the command text. A method whyNot.. tells how a wish is refused;
     * its fellow that grants the wish is called only when that is FINE.
     */
    private static final class State {
        private final Head head = new Head();
        private final Head trial;
        private final int[] settings = new int[SETTINGS];
        private final Label[] labels = new Label[MAX_LABELS];
        private int labelCount;
        private final Customer[] customers = new Customer[MAX_CUSTOMERS];
        private int customerCount;
        private int lines;

        State(Head trial) {
            this.trial = trial;
            System.arraycopy(FIRST_SETTING, 0, settings, 0, SETTINGS);
            for (int i = 0; i < MAX_LABELS; i++) {
                labels[i] = new Label();
            }
            for (int i = 0; i < MAX_CUSTOMERS; i++) {
                customers[i] = new Customer();
            }
        }

        void takeOver(State other) {
            head.takeOver(other.head);
            System.arraycopy(other.settings, 0, settings, 0, SETTINGS);
            for (int i = 0; i < MAX_LABELS; i++) {
                labels[i].takeOver(other.labels[i]);
            }
            labelCount = other.labelCount;
            for (int i = 0; i < MAX_CUSTOMERS; i++) {
                customers[i].takeOver(other.customers[i]);
            }
            customerCount = other.customerCount;
            lines = other.lines;
        }

        boolean hasDot(int dot) {
            return dot >= 0 && dot < head.dots;
        }

        boolean hasLabel(int label) {
            return label >= 0 && label < labelCount;
        }

        boolean hasCustomer(int customer) {
            return customer >= 0 && customer < customerCount;
        }

        int whyNotNewHead(int dots) {
            return dots < MIN_DOTS || dots > MAX_DOTS ? BAD_ARGUMENT : FINE;
        }

        int newHead(int dots) {
            int before = allWear();
            head.renewAll(dots);
            for (int i = 0; i < customerCount; i++) {
                customers[i].rentNothing();
            }
            return before;
        }

        int whyNotChangeSetting(int what, int value) {
            if (what < 0 || what >= SETTINGS) {
                return BAD_ARGUMENT;
            }
            return value < LOWEST_SETTING[what] || value > HIGHEST_SETTING[what] ? BAD_ARGUMENT : FINE;
        }

        int changeSetting(int what, int value) {
            int before = settings[what];
            settings[what] = value;
            return before;
        }

        int whyNotNewLabel(int width, int blackness) {
            if (width < 1 || width > MAX_WIDTH || blackness < 1 || blackness > MAX_BLACKNESS) {
                return BAD_ARGUMENT;
            }
            return labelCount >= MAX_LABELS ? BAD_STATE : FINE;
        }

        int newLabel(int width, int blackness) {
            labels[labelCount].width = width;
            labels[labelCount].blackness = blackness;
            labelCount++;
            return labelCount - 1;
        }

        int whyNotChangeRow(int label, int row, int cells) {
            if (!hasLabel(label)) {
                return NO_SUCH_THING;
            }
            boolean inRange = row >= 0 && row < ROWS && cells >= 0 && cells <= labels[label].allColumns();
            return inRange ? FINE : BAD_ARGUMENT;
        }

        int changeRow(int label, int row, int cells) {
            int before = labels[label].rows[row];
            labels[label].rows[row] = cells;
            return before;
        }

        int whyNotNewDot(int dot) {
            return hasDot(dot) ? FINE : NO_SUCH_THING;
        }

        int newDot(int dot) {
            int before = head.wear[dot];
            head.renew(dot);
            return before;
        }

        int whyNotPassLines(int count) {
            return count < 1 || count > MAX_IDLE_LINES ? BAD_ARGUMENT : FINE;
        }

        int passLines(int count) {
            head.lose(count * settings[COOLING]);
            lines += count;
            return head.heatSum();
        }

        int whyNotNewCustomer() {
            return customerCount >= MAX_CUSTOMERS ? BAD_STATE : FINE;
        }

        int newCustomer() {
            customerCount++;
            return customerCount - 1;
        }

        int whyNotLet(int customer, int from, int to) {
            if (!hasCustomer(customer) || !hasDot(from) || !hasDot(to)) {
                return NO_SUCH_THING;
            }
            if (to < from) {
                return BAD_ARGUMENT;
            }
            return othersRentOneOf(customer, from, to) ? BAD_STATE : FINE;
        }

        int let(int customer, int from, int to) {
            customers[customer].first = from;
            customers[customer].last = to;
            return allRented();
        }

        int whyNotEndLet(int customer) {
            if (!hasCustomer(customer)) {
                return NO_SUCH_THING;
            }
            return customers[customer].rented() == 0 ? BAD_STATE : FINE;
        }

        int endLet(int customer) {
            int before = customers[customer].rented();
            customers[customer].rentNothing();
            return before;
        }

        int whyNotPair(int customer, int label) {
            return hasCustomer(customer) && hasLabel(label) ? FINE : NO_SUCH_THING;
        }

        int whyNotAskAbout(int customer, int label, int offset) {
            if (!hasCustomer(customer) || !hasLabel(label)) {
                return NO_SUCH_THING;
            }
            return offset < 0 || offset > MAX_OFFSET ? BAD_ARGUMENT : FINE;
        }

        int whyNotPrintAt(int customer, int label, int offset) {
            int refusal = whyNotAskAbout(customer, label, offset);
            if (refusal != FINE) {
                return refusal;
            }
            return reasonAt(customer, label, offset) != 0 ? BAD_STATE : FINE;
        }

        int printAt(int customer, int label, int offset) {
            int price = priceAt(customer, label, offset);
            int unread = head.printRows(labels[label], offset, settings);
            lines += ROWS;
            book(customers[customer], labels[label], price, unread > settings[ALLOWANCE]);
            return unread;
        }

        private void book(Customer customer, Label label, int price, boolean failed) {
            customer.paid += price;
            customer.printed++;
            label.printed++;
            if (failed) {
                customer.paidBack += price;
                customer.failed++;
                label.failed++;
            }
        }

        int whyNotPrintAtBest(int customer, int label) {
            if (whyNotPair(customer, label) != FINE) {
                return NO_SUCH_THING;
            }
            return bestPlace(customer, label) == NONE ? BAD_STATE : FINE;
        }

        int printAtBest(int customer, int label) {
            int offset = bestPlace(customer, label);
            if (offset != NONE) {
                printAt(customer, label, offset);
            }
            return offset;
        }

        int whyNotDotValue(int dot, int what) {
            if (!hasDot(dot)) {
                return NO_SUCH_THING;
            }
            return what < 0 || what >= DOT_VALUES ? BAD_ARGUMENT : FINE;
        }

        int dotValue(int dot, int what) {
            switch (what) {
                case 0: return head.heat[dot];
                case 1: return head.wear[dot];
                case 2: return renterOf(dot);
                case 3: return head.burnt[dot];
                default: return head.fadeOf(dot, settings);
            }
        }

        int whyNotLabelValue(int label, int what, int values) {
            if (!hasLabel(label)) {
                return NO_SUCH_THING;
            }
            return what < 0 || what >= values ? BAD_ARGUMENT : FINE;
        }

        int whyNotCustomerValue(int customer, int what) {
            if (!hasCustomer(customer)) {
                return NO_SUCH_THING;
            }
            return what < 0 || what >= CUSTOMER_VALUES ? BAD_ARGUMENT : FINE;
        }

        int wholeValue(int what) {
            if (what >= 1 && what <= SETTINGS) {
                return settings[what - 1];
            }
            switch (what) {
                case 0: return head.dots;
                case 8: return labelCount;
                case 9: return customerCount;
                case 10: return allWear();
                case 11: return head.burntInAll;
                case 12: return allPrinted();
                case 13: return allFailed();
                case 14: return allEarned();
                case 15: return allRented();
                default: return lines;
            }
        }

        private int allWear() {
            return head.wearSum(0, head.dots - 1);
        }

        private int allPrinted() {
            int sum = 0;
            for (int i = 0; i < labelCount; i++) {
                sum += labels[i].printed;
            }
            return sum;
        }

        private int allFailed() {
            int sum = 0;
            for (int i = 0; i < labelCount; i++) {
                sum += labels[i].failed;
            }
            return sum;
        }

        private int allEarned() {
            int sum = 0;
            for (int i = 0; i < customerCount; i++) {
                sum += customers[i].paid - customers[i].paidBack;
            }
            return sum;
        }

        private int allRented() {
            int sum = 0;
            for (int i = 0; i < customerCount; i++) {
                sum += customers[i].rented();
            }
            return sum;
        }

        private int renterOf(int dot) {
            for (int i = 0; i < customerCount; i++) {
                if (customers[i].rentsOneOf(dot, dot)) {
                    return i;
                }
            }
            return NONE;
        }

        private boolean othersRentOneOf(int customer, int from, int to) {
            for (int i = 0; i < customerCount; i++) {
                if (i != customer && customers[i].rentsOneOf(from, to)) {
                    return true;
                }
            }
            return false;
        }

        int reasonAt(int customer, int label, int offset) {
            int last = offset + labels[label].width - 1;
            if (last >= head.dots) {
                return 1;
            }
            if (othersRentOneOf(customer, offset, last)) {
                return 2;
            }
            return labels[label].blackCells() == 0 ? 3 : 0;
        }

        int priceAt(int customer, int label, int offset) {
            Label printed = labels[label];
            int last = offset + printed.width - 1;
            int full = printed.blackCells() * printed.blackness * settings[UNIT_PRICE];
            if (!customers[customer].rentsAllOf(offset, last) || printed.width < 1) {
                return full;
            }
            int discount = Math.min(MAX_DISCOUNT, head.wearSum(offset, last) / printed.width);
            return full * (1000 - discount) / 1000;
        }

        int unreadableAt(int label, int offset) {
            trial.takePart(head, offset, labels[label].width);
            return trial.printRows(labels[label], 0, settings);
        }

        int readableAt(int label, int offset) {
            trial.takePart(head, offset, labels[label].width);
            int readable = 0;
            while (readable < MAX_READABLE
                    && trial.printRows(labels[label], 0, settings) <= settings[ALLOWANCE]) {
                readable++;
            }
            return readable;
        }

        int bestPlace(int customer, int label) {
            int best = NONE;
            int leastUnread = 0;
            int leastPrice = 0;
            for (int offset = 0; offset <= MAX_OFFSET; offset++) {
                if (reasonAt(customer, label, offset) != 0) {
                    continue;
                }
                int unread = unreadableAt(label, offset);
                int price = priceAt(customer, label, offset);
                if (best == NONE || unread < leastUnread || unread == leastUnread && price < leastPrice) {
                    best = offset;
                    leastUnread = unread;
                    leastPrice = price;
                }
            }
            return best;
        }

        int whyNotCarryOut(Word word, int[] n) {
            switch (word) {
                case HEAD: return whyNotNewHead(n[0]);
                case LABEL: return whyNotNewLabel(n[0], n[1]);
                case ROW: return whyNotChangeRow(n[0], n[1], n[2]);
                case CLIENT: return whyNotNewCustomer();
                case RENT: return whyNotLet(n[0], n[1], n[2]);
                case PRINT: return whyNotPrintAt(n[0], n[1], n[2]);
                case BEST: return whyNotPrintAtBest(n[0], n[1]);
                case COOL: return whyNotPassLines(n[0]);
                case NEW: return whyNotNewDot(n[0]);
                default: return whyNotChangeSetting(n[0], n[1]);
            }
        }

        int carryOut(Word word, int[] n) {
            switch (word) {
                case HEAD: return newHead(n[0]);
                case LABEL: return newLabel(n[0], n[1]);
                case ROW: return changeRow(n[0], n[1], n[2]);
                case CLIENT: return newCustomer();
                case RENT: return let(n[0], n[1], n[2]);
                case PRINT: return printAt(n[0], n[1], n[2]);
                case BEST: return printAtBest(n[0], n[1]);
                case COOL: return passLines(n[0]);
                case NEW: return newDot(n[0]);
                default: return changeSetting(n[0], n[1]);
            }
        }
    }

    /** The command text, and a reader that goes through its commands one by one. */
    private static final class CommandText {
        private final char[] bytes = new char[MAX_TEXT];
        private int length;
        private int place;
        private int fault = NONE;
        private Word word = Word.HEAD;
        private final int[] numbers = new int[MAX_NUMBERS];

        int whyNotAppend(int value) {
            if (value < 0 || value > MAX_BYTE) {
                return BAD_ARGUMENT;
            }
            return length >= MAX_TEXT ? BAD_STATE : FINE;
        }

        int append(int value) {
            bytes[length] = (char) value;
            length++;
            return length;
        }

        int empty() {
            int before = length;
            length = 0;
            return before;
        }

        void rewind() {
            place = 0;
            fault = NONE;
        }

        /** The fault of the whole text; NONE if it has none. */
        int findFault() {
            rewind();
            boolean more = true;
            for (int i = 0; i < MAX_TEXT && more; i++) {
                more = readCommand();
            }
            return fault;
        }

        /** Reads the next command into word and numbers; false at the end of the text and at a fault. */
        boolean readCommand() {
            skipSpaces();
            if (place >= length) {
                return false;
            }
            int start = place;
            skipLetters();
            Word found = wordBetween(start, place);
            if (found == null) {
                fault = start;
                return false;
            }
            word = found;
            if (!readNumbers(word.numbers) || !readSemicolon()) {
                fault = place;
                return false;
            }
            return true;
        }

        private void skipSpaces() {
            while (place < length && bytes[place] == ' ') {
                place++;
            }
        }

        private void skipLetters() {
            while (place < length && bytes[place] >= 'a' && bytes[place] <= 'z') {
                place++;
            }
        }

        private Word wordBetween(int start, int end) {
            for (Word candidate : WORDS) {
                if (isBetween(candidate.letters, start, end)) {
                    return candidate;
                }
            }
            return null;
        }

        private boolean isBetween(String letters, int start, int end) {
            if (letters.length() != end - start) {
                return false;
            }
            for (int i = 0; i < letters.length(); i++) {
                if (letters.charAt(i) != bytes[start + i]) {
                    return false;
                }
            }
            return true;
        }

        private boolean readNumbers(int count) {
            for (int i = 0; i < count && i < MAX_NUMBERS; i++) {
                if (!readNumber(i)) {
                    return false;
                }
            }
            return true;
        }

        private boolean readNumber(int index) {
            int before = place;
            skipSpaces();
            if (place == before) {
                return false;
            }
            int value = 0;
            int digits = 0;
            while (digits < MAX_DIGITS && place < length && bytes[place] >= '0' && bytes[place] <= '9') {
                value = 10 * value + bytes[place] - '0';
                digits++;
                place++;
            }
            numbers[index] = value;
            return digits > 0;
        }

        private boolean readSemicolon() {
            skipSpaces();
            if (place >= length || bytes[place] != ';') {
                return false;
            }
            place++;
            return true;
        }
    }
}
