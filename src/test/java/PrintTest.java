/** Promises 11, 12 and 17 to 22: print, printBest, whole, and the what-if questions. */
final class PrintTest {

    private PrintTest() {
    }

    public static void main(String[] args) {
        burning();
        wearEndsAt9999();
        fadingIsByTheWearBeforeTheLine();
        fadeAboveTheTolerance();
        smearing();
        allowance();
        reasons();
        wrongPrints();
        prices();
        priceIsFromBeforeThePrint();
        readableFor();
        bestByCells();
        bestByPrice();
        noBest();
        wholeValues();
        questionsChangeNothing();
        Check.end();
    }

    private static void burning() {
        WornDots x = HeadTest.withLabel(1, 9);
        x.set(0, 7);
        x.set(1, 90);
        Check.gives("print", 0, () -> x.print(0, 0, 11));
        Check.gives("heat", 48, () -> x.dot(11, 0));
        Check.gives("burnt", 9, () -> x.dot(11, 3));
        x.print(0, 0, 11);
        Check.gives("burnt, rounded up from 4.2", 14, () -> x.dot(11, 3));
        Check.gives("wear", 14, () -> x.dot(11, 1));
        x.addLabel(1, 4);
        x.setRow(1, 0, 1);
        x.print(0, 1, 11);
        Check.gives("a hotter dot burns nothing", 14, () -> x.dot(11, 3));
        Check.gives("and keeps its heat", 6, () -> x.dot(11, 0));
        x.set(0, 0);
        x.print(0, 1, 11);
        Check.gives("burnt, rounded up from 3.4", 18, () -> x.dot(11, 3));
        x.print(0, 1, 11);
        Check.gives("a dot just as hot burns nothing", 18, () -> x.dot(11, 3));
        Check.gives("heat", 40, () -> x.dot(11, 0));
        Check.gives("burnt in all", 18, () -> x.whole(11));
    }

    private static void wearEndsAt9999() {
        WornDots x = HeadTest.withLabel(1, 9);
        for (int row = 0; row < 6; row++) {
            x.setRow(0, row, 1);
        }
        x.set(0, 30);
        String text = "";
        for (int i = 0; i < 12; i++) {
            text += "print 0 0 0;";
        }
        Text.put(x, text);
        // A label burns 3 units for each line but 9 for the first one from a cold dot.
        int printed = 0;
        while (x.dot(0, 1) < 9999 && printed < 700) {
            x.runCommands();
            printed += 12;
        }
        int times = printed;
        Check.gives("wear", 9999, () -> x.dot(0, 1));
        Check.gives("sum of the wears", 9999, () -> x.whole(10));
        Check.gives("burnt counts in full", 9 + 15 + 18L * (times - 1), () -> x.dot(0, 3));
        Check.gives("burnt in all", 9 + 15 + 18L * (times - 1), () -> x.whole(11));
        x.set(2, 9998);
        x.set(3, 1);
        Check.gives("fade", 1, () -> x.dot(0, 4));
        x.set(2, 9999);
        Check.gives("fade", 0, () -> x.dot(0, 4));
        Check.gives("replace", 9999, () -> x.replace(0));
    }

    private static void fadingIsByTheWearBeforeTheLine() {
        WornDots x = HeadTest.withLabel(1, 5);
        x.setRow(0, 1, 1);
        x.set(0, 30);
        x.set(2, 0);
        x.set(3, 1);
        x.set(4, 4);
        x.set(5, 0);
        Check.gives("only the second row is faded", 1, () -> x.unreadable(0, 0, 3));
        x.set(4, 5);
        Check.gives("a fade of 5 is not above 5", 0, () -> x.unreadable(0, 0, 3));
        Check.gives("print", 0, () -> x.print(0, 0, 3));
        Check.gives("wear", 8, () -> x.dot(3, 1));
        Check.gives("both rows are faded", 2, () -> x.print(0, 0, 3));
    }

    private static void fadeAboveTheTolerance() {
        WornDots x = HeadTest.withLabel(1, 9);
        x.set(0, 30);
        x.print(0, 0, 0);
        x.set(3, 3);
        x.set(2, 3);
        Check.gives("fade 2 of 6 / 3", 2, () -> x.dot(0, 4));
        Check.gives("2 is above 1", 1, () -> x.unreadable(0, 0, 0));
        x.set(4, 2);
        Check.gives("2 is not above 2", 0, () -> x.unreadable(0, 0, 0));
        x.set(2, 1);
        Check.gives("fade 2 of 8 / 3", 2, () -> x.dot(0, 4));
        Check.gives("2 is not above 2", 0, () -> x.unreadable(0, 0, 0));
        x.set(4, 0);
        x.set(2, 9);
        Check.gives("no fade at the limit", 0, () -> x.unreadable(0, 0, 0));
        x.set(2, 7);
        Check.gives("fade 0 of 2 / 3", 0, () -> x.unreadable(0, 0, 0));
    }

    private static void smearing() {
        WornDots x = HeadTest.withLabel(2, 9);
        x.setRow(0, 0, 1);
        x.set(0, 10);
        // Column 0 has 80, 70, 60, 50, 40 degrees before its white rows; column 1 stays cold.
        Check.gives("two are above 60", 2, () -> x.unreadable(0, 0, 0));
        x.set(1, 80);
        Check.gives("80 is not above 80", 0, () -> x.unreadable(0, 0, 0));
        x.set(1, 79);
        Check.gives("80 is above 79", 1, () -> x.unreadable(0, 0, 0));
        x.set(1, 39);
        Check.gives("print", 5, () -> x.print(0, 0, 1));
        x.set(1, 29);
        Check.gives("30 degrees from before, under its black column", 5, () -> x.unreadable(0, 0, 1));
        Check.gives("30 degrees from before, under its white column", 6, () -> x.unreadable(0, 0, 0));
        Check.gives("30 degrees from before, beside it", 5, () -> x.unreadable(0, 0, 2));
    }

    private static void allowance() {
        WornDots x = HeadTest.withLabel(1, 9);
        x.set(0, 10);
        Check.gives("as many as allowed", 2, () -> x.print(0, 0, 0));
        Check.gives("it can be read", 0, () -> x.whole(13));
        Check.gives("paid back", 0, () -> x.customer(0, 3));
        x.set(5, 1);
        Check.gives("one more than allowed", 2, () -> x.print(0, 0, 1));
        Check.gives("it cannot be read", 1, () -> x.whole(13));
        Check.gives("label", 1, () -> x.label(0, 4));
        Check.gives("customer", 1, () -> x.customer(0, 5));
        Check.gives("paid", 90, () -> x.customer(0, 2));
        Check.gives("paid back", 45, () -> x.customer(0, 3));
    }

    private static void reasons() {
        WornDots x = HeadTest.withLabel(3, 1);
        x.addCustomer();
        x.addLabel(3, 1);
        x.rent(1, 4, 5);
        int[] due = {0, 0, 2, 2, 2, 2, 0, 0, 0, 0, 1, 1};
        for (int offset = 0; offset < 24; offset++) {
            int o = offset;
            int reason = offset < 12 ? due[offset] : 1;
            Check.gives("reason at " + o, reason, () -> x.reason(0, 0, o));
            Check.gives("reason for the renter at " + o, offset > 9 ? 1 : 0, () -> x.reason(1, 0, o));
            Check.gives("reason for a white label at " + o, reason == 0 ? 3 : reason, () -> x.reason(0, 1, o));
            Check.gives("price is NONE at " + o, reason == 0 ? 15 : -1, () -> x.price(0, 0, o));
            Check.gives("unreadable is NONE at " + o, reason == 0 ? 0 : -1, () -> x.unreadable(0, 0, o));
            Check.gives("readableFor is NONE at " + o, reason == 0 ? 100 : -1, () -> x.readableFor(0, 0, o) < 0 ? -1 : 100);
            Check.gives("a white label", -1, () -> x.price(0, 1, o));
            Check.gives("a white label", -1, () -> x.unreadable(0, 1, o));
            Check.gives("a white label", -1, () -> x.readableFor(0, 1, o));
        }
        x.rent(1, 10, 11);
        Check.gives("beyond the head comes first", 1, () -> x.reason(0, 1, 10));
        Check.gives("rented by another comes second", 2, () -> x.reason(0, 1, 9));
        x.begin(24);
        Check.gives("the last offset", 0, () -> x.reason(0, 0, 21));
        Check.gives("beyond", 1, () -> x.reason(0, 0, 22));
    }

    private static void wrongPrints() {
        WornDots x = HeadTest.withLabel(3, 1);
        x.addLabel(1, 1);
        int max = Integer.MAX_VALUE;
        int min = Integer.MIN_VALUE;
        int[][] noSuch = {{1, 0, 0}, {-1, 0, 0}, {0, 2, 0}, {0, -1, 0}, {max, 0, 0}, {min, 0, 0},
            {0, max, 0}, {0, min, 0}, {1, 0, 24}, {0, 2, -1}};
        for (int[] a : noSuch) {
            refusesAll(x, a, Check.INDEX);
            Check.refusesWithoutTrace(x, "printBest", Check.INDEX,
                () -> x.printBest(a[0] == 0 ? 6 : a[0], a[1]));
            Check.refuses("bestOffset", Check.INDEX, () -> x.bestOffset(a[0] == 0 ? 6 : a[0], a[1]));
        }
        int[][] wrong = {{0, 0, -1}, {0, 0, 24}, {0, 0, max}, {0, 0, min}, {0, 1, 24}};
        for (int[] a : wrong) {
            refusesAll(x, a, Check.ARGUMENT);
        }
        Check.refuses("bestOffset", Check.INDEX, () -> x.bestOffset(0, 2));
        Check.refuses("bestOffset", Check.INDEX, () -> x.bestOffset(0, -1));
        Check.refusesWithoutTrace(x, "beyond the head", Check.STATE, () -> x.print(0, 0, 10));
        Check.refusesWithoutTrace(x, "far beyond the head", Check.STATE, () -> x.print(0, 0, 23));
        Check.refusesWithoutTrace(x, "a white label", Check.STATE, () -> x.print(0, 1, 0));
        x.addCustomer();
        x.rent(1, 3, 3);
        Check.refusesWithoutTrace(x, "rented by another", Check.STATE, () -> x.print(0, 0, 1));
        Check.gives("its own", 0, () -> x.print(1, 0, 1));
        Check.gives("beside it", 0, () -> x.print(0, 0, 0));
    }

    private static void refusesAll(WornDots x, int[] a, Class<?> due) {
        String where = "(" + a[0] + ", " + a[1] + ", " + a[2] + ")";
        Check.refusesWithoutTrace(x, "print" + where, due, () -> x.print(a[0], a[1], a[2]));
        Check.refuses("reason" + where, due, () -> x.reason(a[0], a[1], a[2]));
        Check.refuses("price" + where, due, () -> x.price(a[0], a[1], a[2]));
        Check.refuses("unreadable" + where, due, () -> x.unreadable(a[0], a[1], a[2]));
        Check.refuses("readableFor" + where, due, () -> x.readableFor(a[0], a[1], a[2]));
    }

    private static void prices() {
        WornDots x = HeadTest.withLabel(3, 7);
        x.setRow(0, 2, 5);
        Check.gives("5 cells * 7 * 5", 175, () -> x.price(0, 0, 0));
        x.set(6, 100);
        Check.gives("5 cells * 7 * 100", 3500, () -> x.price(0, 0, 0));
        x.print(0, 0, 0);
        Check.gives("wears", 9, () -> x.dot(0, 1));
        Check.gives("wears", 7, () -> x.dot(1, 1));
        x.rent(0, 0, 2);
        Check.gives("discount 25 / 3", 3500 * 992 / 1000, () -> x.price(0, 0, 0));
        Check.gives("one dot is not rented", 3500, () -> x.price(0, 0, 1));
        x.rent(0, 1, 11);
        Check.gives("the first dot is not rented", 3500, () -> x.price(0, 0, 0));
        Check.gives("discount 16 / 3", 3500 * 995 / 1000, () -> x.price(0, 0, 1));
        Check.gives("no wear", 3500, () -> x.price(0, 0, 9));
        x.addLabel(1, 9);
        for (int row = 0; row < 6; row++) {
            x.setRow(1, row, 1);
        }
        x.set(0, 30);
        Text.put(x, "print 0 1 11;print 0 1 11;print 0 1 11;print 0 1 11;print 0 1 11;");
        while (x.dot(11, 1) < 900) {
            Check.gives("discount below 900", 54 * 100 * (1000 - x.dot(11, 1)) / 1000, () -> x.price(0, 1, 11));
            x.runCommands();
        }
        Check.gives("at most 900", 540, () -> x.price(0, 1, 11));
        x.endRent(0);
        Check.gives("nothing rented", 5400, () -> x.price(0, 1, 11));
    }

    private static void priceIsFromBeforeThePrint() {
        WornDots x = HeadTest.withLabel(1, 9);
        x.set(6, 100);
        x.rent(0, 0, 0);
        x.print(0, 0, 0);
        Check.gives("without the wear of the print", 900, () -> x.customer(0, 2));
        x.print(0, 0, 0);
        Check.gives("with the wear of the first one", 900 + 900 * 991 / 1000, () -> x.customer(0, 2));
    }

    private static void readableFor() {
        WornDots x = HeadTest.withLabel(2, 2);
        x.set(2, 10);
        x.set(3, 2);
        x.set(4, 1);
        x.set(5, 1);
        // The wear grows by 2 for each label; 14 has a fade of 2, after seven labels.
        Check.gives("readableFor", 7, () -> x.readableFor(0, 0, 0));
        x.print(0, 0, 1);
        Check.gives("one dot has been used", 7, () -> x.readableFor(0, 0, 0));
        x.set(5, 0);
        Check.gives("one cell is too much", 6, () -> x.readableFor(0, 0, 0));
        x.set(5, 2);
        Check.gives("two cells are allowed", 100, () -> x.readableFor(0, 0, 0));
        x.set(5, 1);
        for (int i = 0; i < 6; i++) {
            Check.gives("left", 6 - i, () -> x.readableFor(0, 0, 1));
            Check.gives("print", 0, () -> x.print(0, 0, 1));
        }
        Check.gives("none", 0, () -> x.readableFor(0, 0, 1));
        Check.gives("print", 2, () -> x.print(0, 0, 1));
        limitOfReadableFor();
    }

    private static void limitOfReadableFor() {
        WornDots x = HeadTest.withLabel(1, 1);
        x.set(5, 0);
        x.set(4, 0);
        x.set(3, 1);
        x.set(2, 98);
        Check.gives("99", 99, () -> x.readableFor(0, 0, 0));
        x.set(2, 99);
        Check.gives("100", 100, () -> x.readableFor(0, 0, 0));
        x.set(2, 100);
        Check.gives("at most 100", 100, () -> x.readableFor(0, 0, 0));
        x.set(0, 0);
        Check.gives("a dot that stays hot burns no more", 100, () -> x.readableFor(0, 0, 0));
        x.set(2, 0);
        Check.gives("but it is worn once", 1, () -> x.readableFor(0, 0, 0));
    }

    private static void bestByCells() {
        WornDots x = HeadTest.withLabel(2, 9);
        x.begin(5);
        x.set(0, 30);
        x.set(2, 0);
        x.set(3, 1);
        x.set(4, 0);
        Check.gives("the lowest of equals", 0, () -> x.bestOffset(0, 0));
        Check.gives("printBest", 0, () -> x.printBest(0, 0));
        Check.gives("beside the worn dots", 2, () -> x.bestOffset(0, 0));
        Check.gives("printBest", 2, () -> x.printBest(0, 0));
        Check.gives("one worn dot is better than two", 3, () -> x.bestOffset(0, 0));
        x.setRow(0, 0, 2);
        Check.gives("white cells over worn dots", 3, () -> x.printBest(0, 0));
        Check.gives("lines", 18, () -> x.whole(16));
        Check.gives("undo of printBest", 3, x::undo);
        Check.gives("wear of the last dot", 0, () -> x.dot(4, 1));
        x.begin(24);
        x.setRow(0, 0, 3);
        x.addCustomer();
        x.rent(1, 0, 21);
        Check.gives("only the last place", 22, () -> x.printBest(0, 0));
        x.rent(1, 0, 22);
        x.addLabel(1, 1);
        x.setRow(1, 0, 1);
        Check.gives("only the last dot", 23, () -> x.bestOffset(0, 1));
        Check.gives("only the last dot", 23, () -> x.printBest(0, 1));
    }

    private static void bestByPrice() {
        WornDots x = HeadTest.withLabel(1, 9);
        x.set(6, 100);
        x.print(0, 0, 5);
        Check.gives("no part is rented", 0, () -> x.bestOffset(0, 0));
        x.rent(0, 4, 6);
        Check.gives("the worn dot is cheaper", 5, () -> x.bestOffset(0, 0));
        x.print(0, 0, 6);
        Check.gives("the lower of two as cheap", 5, () -> x.bestOffset(0, 0));
        x.print(0, 0, 6);
        Check.gives("the cheapest", 6, () -> x.printBest(0, 0));
        Check.gives("wear", 9 + 14 - 9 + 5, () -> x.dot(6, 1));
        x.set(2, 0);
        x.set(3, 9);
        x.set(4, 0);
        Check.gives("cells come before the price", 0, () -> x.bestOffset(0, 0));
        x.set(5, 20);
        Check.gives("whatever the allowance", 0, () -> x.bestOffset(0, 0));
    }

    private static void noBest() {
        WornDots x = HeadTest.withLabel(5, 9);
        x.addLabel(2, 2);
        x.begin(4);
        Check.gives("wider than the head", -1, () -> x.bestOffset(0, 0));
        Check.refusesWithoutTrace(x, "printBest", Check.STATE, () -> x.printBest(0, 0));
        Check.gives("white", -1, () -> x.bestOffset(0, 1));
        Check.refusesWithoutTrace(x, "printBest", Check.STATE, () -> x.printBest(0, 1));
        x.addCustomer();
        x.setRow(1, 5, 2);
        Check.gives("free", 0, () -> x.bestOffset(0, 1));
        x.rent(1, 1, 2);
        Check.gives("rented in between", -1, () -> x.bestOffset(0, 1));
        Check.refusesWithoutTrace(x, "printBest", Check.STATE, () -> x.printBest(0, 1));
        Check.gives("the renter may", 0, () -> x.bestOffset(1, 1));
    }

    private static void wholeValues() {
        WornDots x = HeadTest.withLabel(2, 5);
        x.addCustomer();
        x.addLabel(1, 1);
        x.setRow(1, 3, 1);
        x.begin(9);
        x.rent(1, 7, 8);
        x.print(0, 0, 0);
        x.print(1, 1, 8);
        x.cool(3);
        x.type(32);
        x.type(59);
        x.set(1, 10);
        x.print(0, 0, 2);
        int[] due = {9, 8, 10, 100, 20, 1, 2, 5, 2, 2, 21, 21, 3, 1, 55, 2, 21, 2};
        for (int what = 0; what < due.length; what++) {
            int w = what;
            Check.gives("whole " + what, due[what], () -> x.whole(w));
        }
        int[] wrong = {-1, 18, Integer.MIN_VALUE, Integer.MAX_VALUE};
        for (int what : wrong) {
            Check.refuses("whole(" + what + ")", Check.ARGUMENT, () -> x.whole(what));
        }
    }

    private static void questionsChangeNothing() {
        WornDots x = HeadTest.withLabel(4, 9);
        x.setRow(0, 3, 6);
        x.print(0, 0, 1);
        long before = x.digest();
        x.reason(0, 0, 1);
        x.price(0, 0, 1);
        x.unreadable(0, 0, 1);
        x.readableFor(0, 0, 1);
        x.bestOffset(0, 0);
        x.mostWorn();
        Check.gives("questions change nothing", before, x::digest);
        long unread = x.unreadable(0, 0, 1);
        Check.gives("print does what unreadable tells", unread, () -> x.print(0, 0, 1));
    }
}
