/** The boundary cases of questions: promises 17 to 22, and what the terms say of reasons, prices and the best offset. */
final class QuestionEdgeTest {

    private static final int MIN = Integer.MIN_VALUE;
    private static final int MAX = Integer.MAX_VALUE;

    private QuestionEdgeTest() {
    }

    public static void main(String[] args) {
        noSuchWholeValue();
        wholeOfNothing();
        wholeOfTheMost();
        moneyOfAll();
        burntByWhatIsGone();
        linesInAll();
        noSuchCustomerOrLabel();
        offsetOutOfRange();
        offsetsFrom0To23();
        reasons();
        firstReason();
        noneWhereItCannotBePrinted();
        prices();
        highestPrice();
        lowestPrice();
        allDotsRented();
        discountAtMost900();
        discountIsRoundedDown();
        priceIsRoundedDown();
        discountOfTheHeadBefore();
        unreadableNow();
        bestHasTheFewestCells();
        bestHasTheLowestPrice();
        bestIsTheLowest();
        bestAtTheEnds();
        noBestOffset();
        noSuchPair();
        readableForAtMost100();
        readableForNone();
        readableForAllowance();
        readableForHeatAndWear();
        questionsChangeNothing();
        Check.end();
    }

    // ---- promise 17

    private static void noSuchWholeValue() {
        Check.sentence("Throws `IllegalArgumentException` if what is out of range");
        int[] wrong = {-1, 18, MIN, MAX};
        for (int what : wrong) {
            Twins.refuse("whole(" + what + ")", Check.ARGUMENT, Scene::busy, x -> x.whole(what));
        }
        int[] due = {10, 8, 90, 100, 7, 1, 2, 5, 3, 3, 70, 70, 2, 1, 225, 6, 12, 20};
        for (int what = 0; what < 18; what++) {
            int w = what;
            Twins.give("whole(" + w + ")", due[w], Scene::busy, x -> x.whole(w));
        }
    }

    private static void wholeOfNothing() {
        Check.sentence("8 labels, 9 customers, 10 sum of the wears");
        int[] due = {12, 8, 60, 100, 20, 1, 2, 5, 0, 0, 0, 0, 0, 0, 0, 0, 0, 0};
        for (int what = 0; what < 18; what++) {
            int w = what;
            Check.gives("whole(" + w + ")", due[w], () -> new WornDots().whole(w));
        }
    }

    private static void wholeOfTheMost() {
        Check.sentence("15 rented dots");
        int[] whats = {0, 8, 9, 15, 17};
        int[] due = {24, 6, 6, 24, 150};
        for (int i = 0; i < whats.length; i++) {
            int what = whats[i];
            Check.gives("whole(" + what + ")", due[i], () -> Scene.full().whole(what));
        }
        Check.gives("sum of the wears", 4 * 9999, () -> Scene.wornDots(9999, 15).whole(10));
        Check.gives("units burnt", 4 * 9999, () -> Scene.wornDots(9999, 15).whole(11));
    }

    private static void moneyOfAll() {
        Check.sentence("14 paid minus paid back, of all customers");
        WornDots x = Scene.oneCell(9, 0);
        Check.gives("none", 0, () -> x.whole(14));
        x.set(0, 0);
        x.set(5, 5);
        for (int i = 0; i < 6; i++) {
            int k = i;
            x.print(k, 0, k);
            Check.gives("paid by " + (k + 1), 45 * (k + 1), () -> x.whole(14));
            if (i < 5) {
                x.addCustomer();
            }
        }
        // The 5 white cells below the black one cannot be read.
        x.set(5, 4);
        x.print(5, 0, 6);
        Check.gives("what is paid back does not count", 45 * 6, () -> x.whole(14));
        Check.gives("paid by the last one", 90, () -> x.customer(5, 2));
        Check.gives("labels printed", 7, () -> x.whole(12));
        Check.gives("of these not read", 1, () -> x.whole(13));
    }

    private static void burntByWhatIsGone() {
        Check.sentence("11 units burnt, in all, also by heads and dots that are gone");
        WornDots x = Scene.oneCell(3, 0);
        x.print(0, 0, 2);
        x.replace(2);
        Check.gives("a dot that is gone", 3, () -> x.whole(11));
        x.print(0, 0, 2);
        Check.gives("the new one too", 6, () -> x.whole(11));
        x.begin(4);
        Check.gives("a head that is gone", 6, () -> x.whole(11));
        x.print(0, 0, 3);
        Check.gives("the new one too", 9, () -> x.whole(11));
        Check.gives("wears", 3, () -> x.whole(10));
        x.undo();
        Check.gives("what is undone does not count", 6, () -> x.whole(11));
    }

    private static void linesInAll() {
        Check.sentence("16 lines, in all: 6 for each label printed, and those of cool()");
        WornDots x = Scene.oneCell(1, 5);
        Check.gives("none", 0, () -> x.whole(16));
        x.print(0, 0, 0);
        Check.gives("one label", 6, () -> x.whole(16));
        x.printBest(0, 0);
        Check.gives("two labels", 12, () -> x.whole(16));
        x.cool(20);
        Check.gives("and lines that cool", 32, () -> x.whole(16));
        x.cool(1);
        Check.gives("one more", 33, () -> x.whole(16));
        x.unreadable(0, 0, 0);
        x.readableFor(0, 0, 0);
        x.begin(4);
        Check.gives("none for questions and a new head", 33, () -> x.whole(16));
        Text.run(x, "cool 2;best 0 0;print 0 0 3;");
        Check.gives("those of a run", 47, () -> x.whole(16));
    }

    // ---- promises 18 to 20 and 22: the same arguments

    private static int ask(int which, WornDots x, int customer, int label, int offset) {
        switch (which) {
            case 0: return x.reason(customer, label, offset);
            case 1: return x.price(customer, label, offset);
            case 2: return x.unreadable(customer, label, offset);
            default: return x.readableFor(customer, label, offset);
        }
    }

    private static String name(int which, int[] a) {
        String[] names = {"reason", "price", "unreadable", "readableFor"};
        return names[which] + "(" + a[0] + ", " + a[1] + ", " + a[2] + ")";
    }

    private static void noSuchCustomerOrLabel() {
        Check.sentence("Throws `IndexOutOfBoundsException` if there is no such customer or label");
        for (int which = 0; which < 4; which++) {
            int w = which;
            for (int[] a : PrintEdgeTest.NO_SUCH) {
                Twins.refuse(name(w, a), Check.INDEX, Scene::busy, x -> ask(w, x, a[0], a[1], a[2]));
            }
            Check.refuses("without customers and labels", Check.INDEX, () -> ask(w, new WornDots(), 0, 0, 0));
            Check.refuses("customer 1 of 1", Check.INDEX, () -> ask(w, PrintEdgeTest.withTwoLabels(), 1, 0, 0));
            Check.refuses("label 1 of 1", Check.INDEX, () -> ask(w, PrintEdgeTest.withTwoCustomers(), 0, 1, 0));
            Check.refuses("a seventh customer", Check.INDEX, () -> ask(w, Scene.full(), 6, 5, 0));
            Check.refuses("a seventh label", Check.INDEX, () -> ask(w, Scene.full(), 5, 6, 0));
        }
    }

    private static void offsetOutOfRange() {
        Check.sentence("Throws `IllegalArgumentException` if offset is out of range");
        for (int which = 0; which < 4; which++) {
            int w = which;
            for (int[] a : PrintEdgeTest.WRONG_OFFSET) {
                Twins.refuse(name(w, a), Check.ARGUMENT, Scene::busy, x -> ask(w, x, a[0], a[1], a[2]));
            }
            Check.refuses("offset 24", Check.ARGUMENT, () -> ask(w, Scene.full(), 5, 5, 24));
            Check.refuses("offset -1", Check.ARGUMENT, () -> ask(w, Scene.full(), 5, 5, -1));
        }
    }

    private static void offsetsFrom0To23() {
        Check.sentence("`offset`: 0 to 23");
        int[] due = {0, 20, 0, 100};
        for (int which = 0; which < 4; which++) {
            int w = which;
            Twins.give("offset 0", due[w], Scene::full, x -> ask(w, x, 0, 5, 0));
            Twins.give("offset 23", due[w], Scene::full, x -> ask(w, x, 5, 5, 23));
        }
    }

    // ---- promise 18

    private static void reasons() {
        Check.sentence("Returns the reason, 1 to 3; 0 if it can be printed.");
        for (int[] a : PrintEdgeTest.REASONS) {
            Twins.give(name(0, a), a[3], Scene::busy, x -> x.reason(a[0], a[1], a[2]));
        }
        WornDots x = new WornDots();
        x.begin(24);
        x.addCustomer();
        x.addLabel(12, 1);
        x.setRow(0, 5, 2048);
        Check.gives("up to the last dot", 0, () -> x.reason(0, 0, 12));
        Check.gives("one dot beyond", 1, () -> x.reason(0, 0, 13));
        x.setRow(0, 5, 1);
        Check.gives("a white column beyond", 1, () -> x.reason(0, 0, 13));
        x.addCustomer();
        x.rent(1, 12, 12);
        Check.gives("its first dot is another's", 2, () -> x.reason(0, 0, 12));
        Check.gives("its last dot is another's", 2, () -> x.reason(0, 0, 1));
        Check.gives("up to it", 0, () -> x.reason(0, 0, 0));
        x.rent(1, 11, 11);
        Check.gives("from behind it on", 0, () -> x.reason(0, 0, 12));
        Check.gives("a white column over it", 2, () -> x.reason(0, 0, 6));
    }

    private static void firstReason() {
        Check.sentence("A label cannot be printed for a customer at an offset for the first reason that applies: "
            + "1 a dot under it is beyond the head; 2 a dot under it is rented by another customer; 3 the label has no "
            + "black cell.");
        WornDots x = new WornDots();
        x.addCustomer();
        x.addCustomer();
        x.addLabel(2, 1);
        x.rent(1, 10, 11);
        Check.gives("all three", 1, () -> x.reason(0, 0, 11));
        Check.gives("the second and the third", 2, () -> x.reason(0, 0, 10));
        Check.gives("the second and the third", 2, () -> x.reason(0, 0, 9));
        Check.gives("the third", 3, () -> x.reason(0, 0, 8));
        Check.gives("the first and the third", 1, () -> x.reason(1, 0, 11));
        Check.gives("the third, on its own part", 3, () -> x.reason(1, 0, 10));
        x.setRow(0, 5, 2);
        Check.gives("the first and the second", 1, () -> x.reason(0, 0, 11));
        Check.gives("the first", 1, () -> x.reason(1, 0, 11));
        Check.gives("the first, far beyond", 1, () -> x.reason(0, 0, 23));
        Check.gives("the second", 2, () -> x.reason(0, 0, 10));
        Check.gives("none", 0, () -> x.reason(0, 0, 8));
        Check.gives("none, on its own part", 0, () -> x.reason(1, 0, 10));
    }

    private static void noneWhereItCannotBePrinted() {
        Check.sentence("NONE is returned only if no exception applies.");
        for (int[] a : PrintEdgeTest.REASONS) {
            for (int which = 1; which < 4; which++) {
                int w = which;
                WornDots x = Scene.busy();
                long answer = ask(w, x, a[0], a[1], a[2]);
                Check.compare(name(w, a) + " is NONE", Boolean.toString(a[3] != 0), Boolean.toString(answer == -1));
                Check.compare(name(w, a) + " is below 0", Boolean.toString(a[3] != 0), Boolean.toString(answer < 0));
            }
        }
        Check.refuses("an offset beyond the head, and out of range", Check.ARGUMENT, () -> Scene.busy().price(2, 1, 24));
        Check.refuses("a white label, and no such customer", Check.INDEX, () -> Scene.busy().unreadable(3, 2, 0));
        Check.refuses("no such label, and no free dots", Check.INDEX, () -> Scene.full().bestOffset(5, 6));
    }

    // ---- promise 19

    private static void prices() {
        Check.sentence("The price of a label at an offset is (number of its black cells) * blackness * (unit price).");
        int[] units = {1, 5, 100};
        for (int unit : units) {
            for (int blackness = 1; blackness < 10; blackness += 4) {
                WornDots x = new WornDots();
                x.addCustomer();
                x.addLabel(12, blackness);
                x.set(6, unit);
                x.setRow(0, 5, 1);
                Check.gives("one cell", blackness * unit, () -> x.price(0, 0, 0));
                x.setRow(0, 0, 4095);
                Check.gives("13 cells", 13L * blackness * unit, () -> x.price(0, 0, 0));
            }
        }
    }

    private static WornDots blackAllOver() {
        WornDots x = new WornDots();
        x.addCustomer();
        x.addLabel(12, 9);
        for (int row = 0; row < 6; row++) {
            x.setRow(0, row, 4095);
        }
        x.set(6, 100);
        return x;
    }

    private static void highestPrice() {
        Check.sentence("Returns the price; NONE if it cannot be printed there.");
        WornDots x = blackAllOver();
        x.set(0, 30);
        Check.gives("the most", 64800, () -> x.price(0, 0, 0));
        x.rent(0, 0, 11);
        Check.gives("the most, without wear", 64800, () -> x.price(0, 0, 0));
        Check.gives("beyond the head", -1, () -> x.price(0, 0, 1));
        Text.put(x, "best 0 0;".repeat(16));
        for (int i = 0; i < 4; i++) {
            x.runCommands();
        }
        Check.gives("wear", 24 + 63 * 18, () -> x.dot(11, 1));
        Check.gives("the most with the highest discount", 6480, () -> x.price(0, 0, 0));
    }

    private static void lowestPrice() {
        Check.sentence("Returns the price; NONE if it cannot be printed there.");
        WornDots x = Scene.oneCell(1, 0);
        x.set(6, 1);
        Check.gives("the least without a discount", 1, () -> x.price(0, 0, 0));
        x.rent(0, 0, 0);
        Check.gives("a discount of 0", 1, () -> x.price(0, 0, 0));
        x.print(0, 0, 0);
        Check.gives("a discount of 1", 0, () -> x.price(0, 0, 0));
    }

    private static void allDotsRented() {
        Check.sentence("If all dots under the label are rented by the customer, it is that * (1000 - its discount) / "
            + "1000");
        WornDots x = Scene.wornDots(24, 15);
        x.addLabel(2, 5);
        x.setRow(2, 5, 3);
        x.set(6, 100);
        int[][] fromToDue = {{1, 2, 976}, {0, 2, 976}, {1, 3, 976}, {0, 3, 976}, {1, 1, 1000}, {2, 2, 1000},
            {0, 1, 1000}, {2, 3, 1000}, {0, 0, 1000}, {3, 3, 1000}};
        Check.gives("nothing is rented", 1000, () -> x.price(0, 2, 1));
        for (int[] a : fromToDue) {
            x.rent(0, a[0], a[1]);
            Check.gives("rented are " + a[0] + " to " + a[1], a[2], () -> x.price(0, 2, 1));
        }
        x.endRent(0);
        Check.gives("nothing is rented any more", 1000, () -> x.price(0, 2, 1));
        x.addCustomer();
        x.rent(1, 1, 2);
        Check.gives("by another customer", -1, () -> x.price(0, 2, 1));
        Check.gives("by this one", 976, () -> x.price(1, 2, 1));
    }

    /** What label 2, whose 6 cells of one column cost 5400 without a discount, costs on dot 0 with this wear. */
    private static int priceOnWear(int wear) {
        WornDots x = Scene.wornDot(wear);
        x.addLabel(1, 9);
        for (int row = 0; row < 6; row++) {
            x.setRow(2, row, 1);
        }
        x.set(6, 100);
        x.rent(0, 0, 0);
        return x.price(0, 2, 0);
    }

    private static void discountAtMost900() {
        Check.sentence("the discount is the sum of the wears of the dots under the label / its width, but at most 900.");
        int[][] wearAndPrice = {{0, 5400}, {1, 5394}, {898, 550}, {899, 545}, {900, 540}, {901, 540}, {999, 540},
            {1000, 540}, {1001, 540}, {9999, 540}};
        for (int[] a : wearAndPrice) {
            Check.gives("price on " + a[0] + " worn", a[1], () -> priceOnWear(a[0]));
        }
        // Summed up, the wears are above 900; the dots have 600 each.
        WornDots x = Scene.wornDots(600, 15);
        x.rent(0, 0, 3);
        Check.gives("4 cells on 600 worn each", 8, () -> x.price(0, 1, 0));
    }

    private static void discountIsRoundedDown() {
        Check.sentence("the discount is the sum of the wears of the dots under the label / its width");
        int[][] wearAndPrice = {{0, 10000}, {1, 10000}, {3, 10000}, {4, 9990}, {7, 9990}, {8, 9980}};
        for (int[] a : wearAndPrice) {
            WornDots x = Scene.wornDot(a[0]);
            x.addLabel(4, 5);
            for (int row = 1; row < 6; row++) {
                x.setRow(2, row, 15);
            }
            x.set(6, 100);
            x.rent(0, 0, 3);
            Check.gives("20 cells; one of 4 dots has a wear of " + a[0], a[1], () -> x.price(0, 2, 0));
        }
        WornDots x = Scene.wornDots(24, 12);
        x.addLabel(3, 9);
        x.setRow(2, 0, 1);
        x.set(6, 100);
        x.rent(0, 0, 3);
        Check.gives("24 / 3 of dots 0 to 2", 892, () -> x.price(0, 2, 0));
        Check.gives("48 / 3 of dots 1 to 3", 885, () -> x.price(0, 2, 1));
    }

    private static void priceIsRoundedDown() {
        Check.sentence("all divided numbers are 0 or more");
        WornDots x = Scene.wornDot(24);
        x.rent(0, 0, 3);
        x.addLabel(1, 1);
        x.setRow(2, 0, 1);
        int[][] unitAndPrice = {{1, 0}, {2, 1}, {5, 4}, {41, 40}, {42, 40}, {83, 81}, {84, 81}, {100, 97}};
        for (int[] a : unitAndPrice) {
            x.set(6, a[0]);
            Check.gives("976 thousandths of " + a[0], a[1], () -> x.price(0, 2, 0));
        }
    }

    private static void discountOfTheHeadBefore() {
        Check.sentence("It is that of the head before the label is printed.");
        WornDots x = Scene.oneCell(9, 0);
        x.set(6, 100);
        x.rent(0, 0, 0);
        Check.gives("before the first one", 900, () -> x.price(0, 0, 0));
        x.print(0, 0, 0);
        Check.gives("paid", 900, () -> x.customer(0, 2));
        Check.gives("before the second one", 891, () -> x.price(0, 0, 0));
        x.print(0, 0, 0);
        Check.gives("paid", 1791, () -> x.customer(0, 2));
        x.replace(0);
        Check.gives("a new dot", 900, () -> x.price(0, 0, 0));
    }

    // ---- promise 20

    private static void unreadableNow() {
        Check.sentence("Returns the number; NONE if it cannot be printed there.");
        WornDots x = blackAllOver();
        x.set(2, 0);
        x.set(3, 1);
        x.set(4, 0);
        // Of a new dot the first row can be read, the next ones cannot.
        Check.gives("new dots", 60, () -> x.unreadable(0, 0, 0));
        x.print(0, 0, 0);
        Check.gives("the most", 72, () -> x.unreadable(0, 0, 0));
        x.set(2, 9999);
        Check.gives("none", 0, () -> x.unreadable(0, 0, 0));
        Check.gives("beyond the head", -1, () -> x.unreadable(0, 0, 1));
        x.set(2, 0);
        Check.gives("print does what it told", 72, () -> x.print(0, 0, 0));
    }

    // ---- promise 21

    private static void bestHasTheFewestCells() {
        Check.sentence("The best offset of a label for a customer is that at which it can be printed with the fewest "
            + "cells that cannot be read");
        for (int free = 0; free < 4; free++) {
            int f = free;
            WornDots x = Scene.wornDots(24, 15 - (1 << free));
            x.addLabel(1, 1);
            x.setRow(2, 0, 1);
            x.set(2, 0);
            x.rent(0, 0, 3);
            x.set(3, 12);
            Check.gives("one cell, none at " + f, f, () -> x.bestOffset(0, 2));
            x.set(4, 2);
            Check.gives("none anywhere: the cheapest", f == 0 ? 1 : 0, () -> x.bestOffset(0, 2));
        }
        WornDots x = Scene.wornDots(24, 7);
        x.addLabel(2, 1);
        x.setRow(2, 0, 3);
        x.set(2, 0);
        x.set(3, 12);
        x.set(5, 20);
        Check.gives("one cell is better than two, also if both are allowed", 2, () -> x.bestOffset(0, 2));
    }

    private static void bestHasTheLowestPrice() {
        Check.sentence("of several that with the lowest price");
        for (int worn = 0; worn < 4; worn++) {
            int w = worn;
            WornDots x = Scene.wornDots(24, 1 << worn);
            x.addLabel(1, 9);
            x.setRow(2, 0, 1);
            Check.gives("without a discount", 0, () -> x.bestOffset(0, 2));
            x.rent(0, 0, 3);
            Check.gives("the worn dot", w, () -> x.bestOffset(0, 2));
            x.rent(0, w, w);
            Check.gives("the worn dot alone is rented", w, () -> x.bestOffset(0, 2));
        }
        WornDots x = Scene.wornDots(24, 4);
        x.addLabel(1, 1);
        x.setRow(2, 0, 1);
        x.set(6, 1);
        x.rent(0, 1, 3);
        Check.gives("0 is lower than 1", 2, () -> x.bestOffset(0, 2));
    }

    private static void bestIsTheLowest() {
        Check.sentence("of several the lowest one.");
        WornDots x = Scene.oneCell(9, 0);
        Check.gives("all the same", 0, () -> x.bestOffset(0, 0));
        x.rent(0, 3, 9);
        Check.gives("all the same price", 0, () -> x.bestOffset(0, 0));
        x.print(0, 0, 8);
        x.print(0, 0, 4);
        x.print(0, 0, 6);
        Check.gives("the same wear and price, other heat", 4, () -> x.bestOffset(0, 0));
        x.addCustomer();
        x.rent(1, 0, 1);
        x.endRent(0);
        Check.gives("the lowest that is free", 2, () -> x.bestOffset(0, 0));
        Check.gives("for the other customer", 0, () -> x.bestOffset(1, 0));
    }

    private static void bestAtTheEnds() {
        Check.sentence("Returns the offset; NONE if there is none.");
        WornDots x = new WornDots();
        x.begin(24);
        x.addCustomer();
        x.addCustomer();
        x.addLabel(1, 1);
        x.setRow(0, 5, 1);
        x.addLabel(12, 1);
        x.setRow(1, 5, 1);
        x.rent(1, 0, 22);
        Check.gives("the last offset", 23, () -> x.bestOffset(0, 0));
        x.rent(1, 0, 11);
        Check.gives("the last one of the widest label", 12, () -> x.bestOffset(0, 1));
        x.rent(1, 1, 23);
        Check.gives("the first offset", 0, () -> x.bestOffset(0, 0));
        x.rent(1, 12, 23);
        Check.gives("the first one of the widest label", 0, () -> x.bestOffset(0, 1));
        x.rent(1, 0, 12);
        Check.gives("one dot too few", -1, () -> x.bestOffset(0, 1));
    }

    private static void noBestOffset() {
        Check.sentence("Returns the offset; NONE if there is none.");
        int[][] none = {{0, 1}, {1, 1}, {2, 1}, {0, 2}, {1, 2}, {2, 2}};
        for (int[] a : none) {
            Twins.give("bestOffset(" + a[0] + ", " + a[1] + ")", -1, Scene::busy, y -> y.bestOffset(a[0], a[1]));
        }
        WornDots x = Scene.full();
        x.endRent(0);
        x.rent(1, 0, 7);
        Check.gives("all is rented by others", -1, () -> x.bestOffset(0, 5));
        Twins.give("wider than its part", -1, Scene::full, y -> y.bestOffset(5, 3));
        Twins.give("as wide as its part", 20, Scene::full, y -> y.bestOffset(5, 4));
    }

    private static void noSuchPair() {
        Check.sentence("Throws `IndexOutOfBoundsException` if there is no such customer or label");
        int[][] wrong = {{-1, 0}, {3, 0}, {6, 0}, {MIN, 0}, {MAX, 0}, {0, -1}, {0, 3}, {0, 6}, {0, MIN}, {0, MAX},
            {3, 3}, {3, 1}, {3, 2}, {-1, -1}};
        for (int[] a : wrong) {
            Twins.refuse("bestOffset(" + a[0] + ", " + a[1] + ")", Check.INDEX, Scene::busy,
                x -> x.bestOffset(a[0], a[1]));
        }
        Check.refuses("without customers and labels", Check.INDEX, () -> new WornDots().bestOffset(0, 0));
        Check.refuses("customer 1 of 1", Check.INDEX, () -> PrintEdgeTest.withTwoLabels().bestOffset(1, 0));
        Check.refuses("label 1 of 1", Check.INDEX, () -> PrintEdgeTest.withTwoCustomers().bestOffset(0, 1));
        Check.gives("label 1 of 2", 0, () -> PrintEdgeTest.withTwoLabels().bestOffset(0, 1));
        Check.gives("customer 1 of 2", 0, () -> PrintEdgeTest.withTwoCustomers().bestOffset(1, 0));
        Check.refuses("a seventh customer", Check.INDEX, () -> Scene.full().bestOffset(6, 5));
    }

    // ---- promise 22

    /** As oneCell(1, 0): the wear grows by 1 for each label, which can be read while it is not above the limit. */
    private static WornDots quicklyFading(int limit) {
        WornDots x = Scene.oneCell(1, 0);
        x.set(2, limit);
        x.set(3, 1);
        x.set(4, 0);
        x.set(5, 0);
        return x;
    }

    private static void readableForAtMost100() {
        Check.sentence("Returns how many can be read before that one, at most 100; NONE if it cannot be printed there.");
        int[][] limitAndDue = {{0, 1}, {1, 2}, {97, 98}, {98, 99}, {99, 100}, {100, 100}, {101, 100}, {9999, 100}};
        for (int[] a : limitAndDue) {
            Twins.give("limit " + a[0], a[1], () -> quicklyFading(a[0]), x -> x.readableFor(0, 0, 11));
        }
        Check.gives("beyond the head", -1, () -> quicklyFading(0).readableFor(0, 0, 12));
    }

    private static void readableForNone() {
        Check.sentence("until one cannot be read.");
        WornDots x = quicklyFading(0);
        x.print(0, 0, 0);
        Check.gives("none", 0, () -> x.readableFor(0, 0, 0));
        Check.gives("one on a new dot", 1, () -> x.readableFor(0, 0, 1));
        x.set(4, 8);
        Check.gives("up to a fade of 8", 8, () -> x.readableFor(0, 0, 0));
    }

    private static void readableForAllowance() {
        Check.sentence("A label cannot be read if more of its cells than the allowance cannot be read.");
        WornDots x = new WornDots();
        x.addCustomer();
        x.addLabel(3, 1);
        x.setRow(0, 0, 7);
        x.set(2, 4);
        x.set(3, 1);
        x.set(4, 0);
        x.set(5, 2);
        Check.gives("three cells, two allowed", 5, () -> x.readableFor(0, 0, 0));
        x.set(5, 3);
        Check.gives("three cells, three allowed", 100, () -> x.readableFor(0, 0, 0));
        x.set(5, 0);
        Check.gives("none allowed", 5, () -> x.readableFor(0, 0, 0));
    }

    private static void readableForHeatAndWear() {
        Check.sentence("one after the other from now on (without lines in between)");
        // Row 5 is black, and leaves 89 degrees that smear the 5 white rows of the next label.
        WornDots x = Scene.oneCell(9, 5);
        x.set(0, 1);
        x.set(5, 4);
        Check.gives("the heat of the label before", 1, () -> x.readableFor(0, 0, 0));
        x.set(5, 5);
        // 9 units, and 1 for each label more: with a wear above 119 the black cell cannot be read either.
        x.set(4, 0);
        Check.gives("the wear of all before", 100, () -> x.readableFor(0, 0, 0));
        x.set(2, 50);
        x.set(3, 1);
        Check.gives("42 labels bring 50 units", 43, () -> x.readableFor(0, 0, 0));
        x.print(0, 0, 0);
        Check.gives("the heat of now", 42, () -> x.readableFor(0, 0, 0));
        x.cool(20);
        x.cool(20);
        x.cool(20);
        x.cool(20);
        x.cool(20);
        Check.gives("cold again: 9 units at once", 34, () -> x.readableFor(0, 0, 0));
        for (int i = 0; i < 34; i++) {
            x.print(0, 0, 0);
        }
        Check.gives("these could be read", 0, () -> x.whole(13));
        Check.gives("none more", 0, () -> x.readableFor(0, 0, 0));
        x.print(0, 0, 0);
        Check.gives("the next one could not", 1, () -> x.whole(13));
    }

    // ---- all of them

    private static void questionsChangeNothing() {
        Check.sentence("Tells how often a label could be printed for a customer at an offset");
        for (int which = 0; which < 4; which++) {
            int w = which;
            long answer = ask(w, Scene.busy(), 0, 0, 0);
            Twins.give("a used part", answer, Scene::busy, x -> ask(w, x, 0, 0, 0));
            long free = ask(w, Scene.busy(), 2, 0, 6);
            Twins.give("a free part", free, Scene::busy, x -> ask(w, x, 2, 0, 6));
        }
        Twins.give("bestOffset", 0, Scene::busy, x -> x.bestOffset(0, 0));
        Twins.give("bestOffset", 4, Scene::busy, x -> x.bestOffset(1, 0));
        Twins.give("digest", Scene.busy().digest(), Scene::busy, WornDots::digest);
    }
}
