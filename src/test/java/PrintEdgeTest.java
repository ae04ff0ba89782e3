/** The boundary cases of printing: promises 11 and 12, and what the terms say of lines, cells and money. */
final class PrintEdgeTest {

    private static final int MIN = Integer.MIN_VALUE;
    private static final int MAX = Integer.MAX_VALUE;

    /** Customers, labels and offsets of which one is no such customer or label of a busy printer. */
    static final int[][] NO_SUCH = {{-1, 0, 0}, {3, 0, 0}, {6, 0, 0}, {MIN, 0, 0}, {MAX, 0, 0}, {0, -1, 0}, {0, 3, 0},
        {0, 6, 0}, {0, MIN, 0}, {0, MAX, 0}, {3, 3, 0}, {-1, 0, -1}, {3, 0, 24}, {0, 3, 24}, {0, -1, -1},
        {3, 3, 24}, {3, 2, 0}, {2, 3, 5}};

    /** Of these only the offset is out of range. */
    static final int[][] WRONG_OFFSET = {{0, 0, -1}, {0, 0, 24}, {0, 0, MIN}, {0, 0, MAX}, {2, 1, 24}, {2, 2, -1},
        {2, 2, 24}, {1, 2, MAX - 1}};

    /** Customer, label and offset on a busy printer, and the reason why it cannot be printed there. */
    static final int[][] REASONS = {{0, 0, 0, 0}, {0, 0, 1, 0}, {0, 0, 2, 2}, {0, 0, 3, 2}, {0, 0, 5, 2}, {0, 0, 6, 0},
        {0, 0, 7, 0}, {0, 0, 8, 1}, {0, 0, 23, 1}, {1, 0, 0, 2}, {1, 0, 3, 2}, {1, 0, 4, 0}, {1, 0, 7, 0},
        {2, 0, 5, 2}, {2, 0, 6, 0}, {2, 0, 8, 1}, {0, 1, 0, 1}, {2, 1, 0, 1}, {2, 1, 23, 1}, {0, 2, 0, 3},
        {0, 2, 8, 3}, {0, 2, 9, 1}, {0, 2, 4, 2}, {2, 2, 0, 2}, {2, 2, 5, 2}, {2, 2, 6, 3}, {1, 2, 4, 3}};

    private PrintEdgeTest() {
    }

    public static void main(String[] args) {
        columnsAndDots();
        rowsInTheirOrder();
        fadeBeforeTheLine();
        fadeAboveTheTolerance();
        burning();
        burningByBlackness();
        wearUpToTheMost();
        heatIfItWasLess();
        whiteAboveTheSmearHeat();
        smearHeatAtItsEnds();
        heatBeforeTheLine();
        whiteCellsOfTheLabelAlone();
        everyDotCools();
        allowance();
        allowanceAtItsEnds();
        customerPays();
        noSuchCustomerOrLabel();
        offsets();
        cannotBePrinted();
        cellsThatCannotBeRead();
        whatAPrintCounts();
        undoOfPrint();
        noSuchCustomerOrLabelForTheBest();
        noOffset();
        bestOffsetIsPrinted();
        undoOfPrintBest();
        Check.end();
    }

    // ---- the terms: lines

    private static void columnsAndDots() {
        Check.sentence("A label is printed at an offset: its column c is printed by the dot offset + c.");
        int[] offsets = {0, 1, 5, 11, 12};
        for (int offset : offsets) {
            WornDots x = new WornDots();
            x.begin(24);
            x.addCustomer();
            x.addLabel(12, 9);
            x.setRow(0, 0, 2048 + 1);
            x.print(0, 0, offset);
            for (int dot = 0; dot < 24; dot++) {
                int d = dot;
                Check.gives("wear of " + d, d == offset || d == offset + 11 ? 9 : 0, () -> x.dot(d, 1));
            }
        }
    }

    private static void rowsInTheirOrder() {
        Check.sentence("Its rows are printed one after the other, from row 0 on, each in one line.");
        for (int row = 0; row < 6; row++) {
            WornDots x = Scene.oneCell(9, row);
            x.set(0, 1);
            x.print(0, 0, 0);
            Check.gives("heat after a black row " + row, 84 + row, () -> x.dot(0, 0));
            Check.gives("lines", 6, () -> x.whole(16));
        }
        WornDots x = Scene.oneCell(9, 0);
        x.setRow(0, 5, 1);
        x.set(0, 4);
        x.print(0, 0, 0);
        Check.gives("units from 0 and from 70", 9 + 2, () -> x.dot(0, 3));
    }

    private static void fadeBeforeTheLine() {
        Check.sentence("by its wear before this line.");
        WornDots x = Scene.oneCell(9, 0);
        x.set(1, 90);
        x.set(2, 0);
        x.set(3, 9);
        x.set(4, 0);
        Check.gives("9 units come with the line", 0, () -> x.print(0, 0, 0));
        Check.gives("9 units were there before", 1, () -> x.print(0, 0, 0));
        x.setRow(0, 4, 1);
        x.set(0, 30);
        Check.gives("9 units come with the line before", 1, () -> x.print(0, 0, 1));
        x.set(4, 1);
        Check.gives("a fade of 2, but after the last line", 0, () -> x.unreadable(0, 0, 2));
    }

    private static void fadeAboveTheTolerance() {
        Check.sentence("The cell cannot be read if its fade is greater than the tolerance.");
        WornDots x = Scene.wornDot(24);
        int[][] limitFadingToleranceDue = {{24, 1, 0, 0}, {23, 1, 0, 1}, {25, 1, 0, 0}, {9999, 1, 0, 0}, {16, 1, 8, 0},
            {15, 1, 8, 1}, {16, 1, 7, 1}, {0, 3, 8, 0}, {0, 2, 8, 1}, {0, 24, 0, 1}, {0, 25, 0, 0}, {0, 25, 8, 0},
            {4, 7, 2, 0}, {3, 7, 2, 1}, {0, 100, 0, 0}};
        for (int[] a : limitFadingToleranceDue) {
            x.set(2, a[0]);
            x.set(3, a[1]);
            x.set(4, a[2]);
            Check.gives("24 worn, limit " + a[0] + ", fading " + a[1] + ", tolerance " + a[2], a[3],
                () -> x.unreadable(0, 1, 0));
        }
    }

    private static void burning() {
        Check.sentence("The dot burns (10 * blackness - heat) / 10 units, rounded up, but none if its heat is "
            + "10 * blackness or more");
        int[][] heatAndUnits = {{0, 5}, {1, 5}, {9, 5}, {10, 4}, {11, 4}, {19, 4}, {20, 3}, {39, 2}, {40, 1}, {41, 1},
            {49, 1}, {50, 0}, {51, 0}, {59, 0}, {60, 0}, {61, 0}, {90, 0}};
        for (int[] a : heatAndUnits) {
            WornDots x = Scene.hotDot(a[0]);
            x.addLabel(1, 5);
            x.setRow(1, 0, 1);
            x.print(0, 1, 0);
            Check.gives("burnt from " + a[0], 9 + a[1], () -> x.dot(0, 3));
            Check.gives("wear from " + a[0], 9 + a[1], () -> x.dot(0, 1));
            Check.gives("burnt in all from " + a[0], 9 + a[1], () -> x.whole(11));
        }
    }

    private static void burningByBlackness() {
        Check.sentence("The dot burns (10 * blackness - heat) / 10 units, rounded up, but none if its heat is "
            + "10 * blackness or more");
        for (int blackness = 1; blackness < 10; blackness++) {
            int b = blackness;
            WornDots x = Scene.oneCell(b, 0);
            x.set(0, 0);
            x.print(0, 0, 0);
            Check.gives("a cold dot burns", b, () -> x.dot(0, 3));
            Check.gives("heat", 10 * b, () -> x.dot(0, 0));
            x.print(0, 0, 0);
            Check.gives("just as hot it burns none", b, () -> x.dot(0, 3));
            x.set(0, 1);
            x.cool(1);
            x.print(0, 0, 0);
            Check.gives("one degree less: one unit", b + 1, () -> x.dot(0, 3));
        }
    }

    private static void wearUpToTheMost() {
        Check.sentence("its wear increases by these, up to 9999 (as burnt they count in full)");
        int[][] beforeAndAfter = {{9974, 9998}, {9975, 9999}, {9976, 9999}, {9998, 9999}, {9999, 9999}};
        for (int[] a : beforeAndAfter) {
            WornDots x = Scene.wornDot(a[0]);
            x.print(0, 0, 0);
            Check.gives("wear", a[1], () -> x.dot(0, 1));
            Check.gives("burnt", a[0] + 24, () -> x.dot(0, 3));
            Check.gives("burnt in all", a[0] + 24, () -> x.whole(11));
        }
    }

    private static void heatIfItWasLess() {
        Check.sentence("and its heat is 10 * blackness then, if it was less.");
        int[][] heats = {{0, 50}, {41, 50}, {49, 50}, {50, 50}, {51, 51}, {60, 60}, {90, 90}};
        for (int[] a : heats) {
            WornDots x = Scene.hotDot(a[0]);
            x.addLabel(1, 5);
            x.setRow(1, 5, 1);
            x.print(0, 1, 0);
            Check.gives("heat from " + a[0], a[1], () -> x.dot(0, 0));
        }
    }

    /** Label 1 of one column has a black row 5, so its rows 0 to 4 are white; the dots cool by 30 a line. */
    private static WornDots whiteOverHotDot(int heat) {
        WornDots x = Scene.hotDot(heat);
        x.addLabel(1, 1);
        x.setRow(1, 5, 1);
        x.set(0, 30);
        return x;
    }

    private static void whiteAboveTheSmearHeat() {
        Check.sentence("is greater than the smear heat.");
        int[][] heatSmearDue = {{60, 60, 0}, {61, 60, 1}, {59, 60, 0}, {90, 60, 1}, {90, 59, 2}, {89, 59, 1},
            {90, 30, 2}, {90, 29, 3}, {0, 10, 0}};
        for (int[] a : heatSmearDue) {
            WornDots x = whiteOverHotDot(a[0]);
            x.set(1, a[1]);
            Check.gives(a[0] + " degrees, smear heat " + a[1], a[2], () -> x.unreadable(0, 1, 0));
        }
    }

    private static void smearHeatAtItsEnds() {
        Check.sentence("1 smear heat (10 to 90; 60 at first)");
        int[][] heatSmearDue = {{90, 90, 0}, {90, 89, 1}, {10, 10, 0}, {11, 10, 1}, {40, 10, 1}, {41, 10, 2}};
        for (int[] a : heatSmearDue) {
            WornDots x = whiteOverHotDot(a[0]);
            x.set(1, a[1]);
            Check.gives(a[0] + " degrees, smear heat " + a[1], a[2], () -> x.print(0, 1, 0));
        }
    }

    private static void heatBeforeTheLine() {
        Check.sentence("the cell cannot be read if the heat of the dot, as it was before this line");
        WornDots x = whiteOverHotDot(61);
        Check.gives("61 before the line, 31 after it", 1, () -> x.unreadable(0, 1, 0));
        x.cool(1);
        Check.gives("31 before the line", 0, () -> x.unreadable(0, 1, 0));
    }

    private static void whiteCellsOfTheLabelAlone() {
        Check.sentence("If there is a white cell of the label under it");
        WornDots x = Scene.hotDot(90);
        x.addLabel(2, 1);
        x.setRow(1, 0, 2);
        Check.gives("a column that is white all over", 6, () -> x.unreadable(0, 1, 0));
        Check.gives("beside the hot dot", 0, () -> x.unreadable(0, 1, 1));
        x.print(0, 0, 11);
        Check.gives("between two hot dots", 0, () -> x.unreadable(0, 1, 9));
        Check.gives("with the second column over the hot dot", 5, () -> x.unreadable(0, 1, 10));
    }

    private static void everyDotCools() {
        Check.sentence("Then the heat of each dot of the head falls by the cooling, but not below 0.");
        int[][] heatCoolingDue = {{48, 8, 0}, {47, 8, 0}, {49, 8, 1}, {54, 8, 6}, {90, 0, 90}, {90, 15, 0}, {90, 14, 6},
            {90, 30, 0}, {7, 1, 1}, {6, 1, 0}, {5, 1, 0}};
        for (int[] a : heatCoolingDue) {
            WornDots x = Scene.hotDot(a[0]);
            x.set(0, a[1]);
            x.print(0, 0, 11);
            Check.gives(a[0] + " degrees far from the label, cooling " + a[1], a[2], () -> x.dot(0, 0));
            Check.gives("the last line cools too", 90 - a[1], () -> x.dot(11, 0));
        }
    }

    private static void allowance() {
        Check.sentence("A label cannot be read if more of its cells than the allowance cannot be read.");
        for (int allowed = 0; allowed < 6; allowed++) {
            // A cooling of 0 keeps the dot at 90 degrees for the 5 white cells.
            WornDots x = Scene.oneCell(9, 0);
            x.set(0, 0);
            x.set(5, allowed);
            Check.gives("cells", 5, () -> x.print(0, 0, 0));
            long failed = allowed < 5 ? 1 : 0;
            Check.gives("allowance " + allowed, failed, () -> x.whole(13));
            Check.gives("label", failed, () -> x.label(0, 4));
            Check.gives("customer", failed, () -> x.customer(0, 5));
        }
    }

    /** Dots that are all worn, so that no black cell can be read, and label 1 that has this many of them. */
    private static WornDots blackCellsOnWornDots(int cells) {
        WornDots x = new WornDots();
        x.addCustomer();
        x.addLabel(12, 1);
        x.setRow(0, 0, 4095);
        x.print(0, 0, 0);
        x.set(2, 0);
        x.set(3, 1);
        x.set(4, 0);
        x.addLabel(12, 1);
        for (int row = 0; row < 6; row++) {
            x.setRow(1, row, (1 << Math.max(0, Math.min(12, cells - 12 * row))) - 1);
        }
        return x;
    }

    private static void allowanceAtItsEnds() {
        Check.sentence("5 allowance (0 to 20; 2 at first)");
        int[][] cellsAllowedFailed = {{20, 20, 0}, {21, 20, 1}, {19, 20, 0}, {1, 0, 1}, {1, 1, 0}, {2, 1, 1}, {2, 2, 0},
            {3, 2, 1}, {72, 20, 1}};
        for (int[] a : cellsAllowedFailed) {
            WornDots x = blackCellsOnWornDots(a[0]);
            x.set(5, a[1]);
            Check.gives("cells", a[0], () -> x.print(0, 1, 0));
            Check.gives(a[0] + " cells, allowance " + a[1], a[2], () -> x.whole(13));
        }
        WornDots x = Scene.oneCell(1, 0);
        x.set(5, 0);
        Check.gives("none", 0, () -> x.print(0, 0, 0));
        Check.gives("no cells, allowance 0", 0, () -> x.whole(13));
    }

    private static void customerPays() {
        Check.sentence("When a label is printed for a customer, the customer pays the price; if it cannot be read, the "
            + "customer is paid back that price.");
        int[] allowances = {5, 4};
        for (int allowed : allowances) {
            WornDots x = Scene.oneCell(9, 0);
            x.set(0, 0);
            x.set(5, allowed);
            x.set(6, 100);
            x.rent(0, 0, 0);
            x.print(0, 0, 0);
            x.print(0, 0, 0);
            // The second one is 991 thousandths of 900, by the wear of the first one.
            Check.gives("paid", 900 + 891, () -> x.customer(0, 2));
            Check.gives("paid back", allowed == 4 ? 900 + 891 : 0, () -> x.customer(0, 3));
            Check.gives("paid minus paid back", allowed == 4 ? 0 : 900 + 891, () -> x.whole(14));
        }
        WornDots x = Scene.oneCell(1, 0);
        x.set(6, 1);
        x.rent(0, 0, 0);
        x.print(0, 0, 0);
        Check.gives("the lowest price", 1, () -> x.customer(0, 2));
        x.print(0, 0, 0);
        Check.gives("999 thousandths of it are nothing", 1, () -> x.customer(0, 2));
        Check.gives("printed", 2, () -> x.customer(0, 4));
    }

    // ---- promise 11

    static WornDots withTwoLabels() {
        WornDots x = Scene.oneCell(1, 0);
        x.addLabel(2, 2);
        x.setRow(1, 5, 3);
        return x;
    }

    static WornDots withTwoCustomers() {
        WornDots x = Scene.oneCell(1, 0);
        x.addCustomer();
        return x;
    }

    private static void noSuchCustomerOrLabel() {
        Check.sentence("Throws `IndexOutOfBoundsException` if there is no such customer or label");
        for (int[] a : NO_SUCH) {
            Twins.refuse("print(" + a[0] + ", " + a[1] + ", " + a[2] + ")", Check.INDEX, Scene::busy,
                x -> x.print(a[0], a[1], a[2]));
        }
        Check.refuses("without customers and labels", Check.INDEX, () -> new WornDots().print(0, 0, 0));
        Check.refuses("customer 1 of 1, label 0 of 2", Check.INDEX, () -> withTwoLabels().print(1, 0, 0));
        Check.refuses("customer 0 of 2, label 1 of 1", Check.INDEX, () -> withTwoCustomers().print(0, 1, 0));
        Check.refuses("a seventh customer", Check.INDEX, () -> Scene.full().print(6, 5, 0));
        Check.refuses("a seventh label", Check.INDEX, () -> Scene.full().print(5, 6, 0));
        Check.gives("the sixth ones", 0, () -> Scene.full().print(5, 5, 23));
    }

    private static void offsets() {
        Check.sentence("Throws `IllegalArgumentException` if offset is out of range");
        for (int[] a : WRONG_OFFSET) {
            Twins.refuse("print(" + a[0] + ", " + a[1] + ", " + a[2] + ")", Check.ARGUMENT, Scene::busy,
                x -> x.print(a[0], a[1], a[2]));
        }
        Twins.refuse("print(5, 5, 24)", Check.ARGUMENT, Scene::full, x -> x.print(5, 5, 24));
        Check.sentence("`offset`: 0 to 23");
        int[] fine = {0, 23};
        for (int offset : fine) {
            WornDots x = Scene.oneCell(1, 0);
            x.begin(24);
            Check.gives("offset " + offset, 0, () -> x.print(0, 0, offset));
            Check.gives("wear", 1, () -> x.dot(offset, 1));
        }
    }

    private static void cannotBePrinted() {
        Check.sentence("Throws `IllegalStateException` if it cannot be printed there");
        for (int[] a : REASONS) {
            String call = "print(" + a[0] + ", " + a[1] + ", " + a[2] + ")";
            if (a[3] != 0) {
                Twins.refuse(call, Check.STATE, Scene::busy, x -> x.print(a[0], a[1], a[2]));
            } else {
                WornDots x = Scene.busy();
                long before = x.whole(12);
                x.print(a[0], a[1], a[2]);
                Check.gives(call + " is done", before + 1, () -> x.whole(12));
            }
        }
        Twins.refuse("all is rented by others", Check.STATE, Scene::full, x -> x.print(0, 5, 4));
    }

    private static void cellsThatCannotBeRead() {
        Check.sentence("Returns the number of cells that cannot be read.");
        int[] counts = {1, 2, 12, 13, 71, 72};
        for (int cells : counts) {
            Check.gives("cells", cells, () -> blackCellsOnWornDots(cells).print(0, 1, 0));
        }
        Check.gives("none", 0, () -> Scene.oneCell(1, 0).print(0, 0, 0));
        // Row 5 is black; the 5 rows before it are white over a dot of 90 degrees, and its fade is 9.
        WornDots x = Scene.hotDot(90);
        x.set(2, 0);
        x.set(3, 1);
        Check.gives("white and black ones", 6, () -> x.print(0, 0, 0));
    }

    private static void whatAPrintCounts() {
        Check.sentence("Prints a label for a customer. Undoable.");
        WornDots x = Scene.busy();
        long lines = x.whole(16);
        x.print(1, 0, 4);
        Check.gives("lines", lines + 6, () -> x.whole(16));
        Check.gives("labels printed", 3, () -> x.whole(12));
        Check.gives("of these not read", 1, () -> x.whole(13));
        Check.gives("printed of this label", 3, () -> x.label(0, 3));
        Check.gives("of the other one", 0, () -> x.label(1, 3));
        Check.gives("printed for this customer", 1, () -> x.customer(1, 4));
        Check.gives("for the other one", 1, () -> x.customer(0, 4));
        Check.gives("paid", 225, () -> x.customer(1, 2));
        Check.gives("what is rented stays", 6, () -> x.whole(15));
    }

    private static void undoOfPrint() {
        Check.sentence("Prints a label for a customer. Undoable.");
        Twins.undo("print(0, 0, 0)", x -> x.print(0, 0, 0));
        Twins.undo("print(2, 0, 7)", x -> x.print(2, 0, 7));
    }

    // ---- promise 12

    private static void noSuchCustomerOrLabelForTheBest() {
        Check.sentence("Throws `IndexOutOfBoundsException` if there is no such customer or label");
        int[][] wrong = {{-1, 0}, {3, 0}, {6, 0}, {MIN, 0}, {MAX, 0}, {0, -1}, {0, 3}, {0, 6}, {0, MIN}, {0, MAX},
            {3, 3}, {-1, -1}, {3, 1}, {3, 2}};
        for (int[] a : wrong) {
            Twins.refuse("printBest(" + a[0] + ", " + a[1] + ")", Check.INDEX, Scene::busy,
                x -> x.printBest(a[0], a[1]));
        }
        Check.refuses("without customers and labels", Check.INDEX, () -> new WornDots().printBest(0, 0));
        Check.refuses("customer 1 of 1", Check.INDEX, () -> withTwoLabels().printBest(1, 0));
        Check.refuses("label 1 of 1", Check.INDEX, () -> withTwoCustomers().printBest(0, 1));
        Check.gives("label 1 of 2", 0, () -> withTwoLabels().printBest(0, 1));
        Check.gives("customer 1 of 2", 0, () -> withTwoCustomers().printBest(1, 0));
        Check.refuses("a seventh customer", Check.INDEX, () -> Scene.full().printBest(6, 5));
        Check.refuses("a seventh label", Check.INDEX, () -> Scene.full().printBest(5, 6));
        Check.gives("the sixth ones", 20, () -> Scene.full().printBest(5, 5));
    }

    private static void noOffset() {
        Check.sentence("Throws `IllegalStateException` if there is no offset at which it can be printed");
        int[][] wrong = {{0, 1}, {1, 1}, {2, 1}, {0, 2}, {2, 2}};
        for (int[] a : wrong) {
            Twins.refuse("printBest(" + a[0] + ", " + a[1] + ")", Check.STATE, Scene::busy,
                x -> x.printBest(a[0], a[1]));
        }
        Twins.refuse("a label wider than the free dots", Check.STATE, Scene::full, x -> x.printBest(5, 3));
        Check.gives("a label just as wide", 20, () -> Scene.full().printBest(5, 4));
    }

    private static void bestOffsetIsPrinted() {
        Check.sentence("Prints a label for a customer at the best offset.");
        WornDots x = Scene.oneCell(2, 3);
        x.begin(24);
        x.addCustomer();
        x.rent(1, 0, 22);
        Check.gives("the last offset", 23, () -> x.printBest(0, 0));
        Check.gives("wear there", 2, () -> x.dot(23, 1));
        Check.gives("paid", 10, () -> x.customer(0, 2));
        Check.gives("lines", 6, () -> x.whole(16));
        x.rent(1, 1, 23);
        Check.gives("the first offset", 0, () -> x.printBest(0, 0));
        Check.gives("wear there", 2, () -> x.dot(0, 1));
        Check.gives("printed for it", 2, () -> x.customer(0, 4));
        Check.gives("wears", 4, () -> x.whole(10));
    }

    private static void undoOfPrintBest() {
        Check.sentence("Prints a label for a customer at the best offset. Undoable.");
        Twins.undo("printBest(0, 0)", x -> x.printBest(0, 0));
        Twins.undo("printBest(1, 0)", x -> x.printBest(1, 0));
    }
}
