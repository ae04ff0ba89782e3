/** Printers made ready for a test, each by calls alone that the test itself does not ask about. */
final class Scene {

    private Scene() {
    }

    /** Customer 0, and label 0 that has one column, and a black cell in this row. */
    static WornDots oneCell(int blackness, int row) {
        WornDots x = new WornDots();
        x.addCustomer();
        x.addLabel(1, blackness);
        x.setRow(0, row, 1);
        return x;
    }

    /** As oneCell(9, 5); dot 0 has this heat, and 9 units of wear. The cooling is 0 then. */
    static WornDots hotDot(int heat) {
        WornDots x = oneCell(9, 5);
        x.set(0, 0);
        x.print(0, 0, 0);
        x.set(0, 1);
        for (int above = 90 - heat; above > 0; above -= 20) {
            x.cool(Math.min(above, 20));
        }
        x.set(0, 0);
        return x;
    }

    /** As wornDots, for dot 0 alone. */
    static WornDots wornDot(int wear) {
        return wornDots(wear, 1);
    }

    /**
     * A cold head of 4 dots, those of a set with this wear, the others new. Customer 0, label 0 of 4 columns that
     * is 9 black in these dots, and label 1 of 4 columns that is 1 black in row 0: of that, each dot burns 1 unit.
     * The cooling is 30.
     */
    static WornDots wornDots(int wear, int dots) {
        WornDots x = new WornDots();
        x.begin(4);
        x.set(0, 30);
        x.addCustomer();
        x.addLabel(4, 9);
        for (int row = 0; row < 6; row++) {
            x.setRow(0, row, dots);
        }
        x.addLabel(4, 1);
        x.setRow(1, 0, dots);
        wearBy(x, wear);
        return x;
    }

    private static void wearBy(WornDots x, int wear) {
        // A label burns 9 and 5 times 3 units from a cold dot, and 6 times 3 from one that it leaves behind.
        if (wear >= 294) {
            Text.put(x, "best 0 0;".repeat(16));
        }
        int worn = 0;
        for (; worn + 294 <= wear; worn = x.whole(10) / x.label(1, 2)) {
            x.runCommands();
        }
        for (; worn + 24 <= wear; worn = x.whole(10) / x.label(1, 2)) {
            x.print(0, 0, 0);
        }
        x.cool(20);
        for (; worn < wear; worn++) {
            x.print(0, 1, 0);
        }
        x.clearCommands();
    }

    /**
     * A printer with something of everything, and four states to undo: 10 dots, of which customer 0 rents 0 to 3
     * and customer 1 rents 4 and 5, a customer 2, a label 0 of 3 columns, a label 1 that is wider than the head,
     * a white label 2 of 2 columns, and a command text. What customer 0 got could not be read, what customer 2 got can.
     */
    static WornDots busy() {
        WornDots x = new WornDots();
        x.begin(10);
        x.addCustomer();
        x.addCustomer();
        x.addCustomer();
        x.addLabel(3, 9);
        x.setRow(0, 0, 7);
        x.setRow(0, 4, 5);
        x.addLabel(12, 2);
        x.setRow(1, 5, 4095);
        x.addLabel(2, 4);
        x.rent(0, 0, 3);
        Text.put(x, "cool 3;client;new 1;");
        x.rent(1, 4, 5);
        x.print(0, 0, 0);
        x.set(1, 90);
        x.print(2, 0, 7);
        x.set(3, 7);
        return x;
    }

    /** As busy, one undo later: there is room on the stack for one more state. */
    static WornDots busyWithThreeStates() {
        WornDots x = busy();
        x.undo();
        return x;
    }

    /** As many dots, labels, customers, rented dots, bytes and states to undo as there can be. */
    static WornDots full() {
        WornDots x = new WornDots();
        x.begin(24);
        for (int i = 0; i < 6; i++) {
            x.addCustomer();
            int width = i == 5 ? 1 : 12 - 2 * i;
            x.addLabel(width, 9 - i);
            x.setRow(i, 5, (1 << width) - 1);
        }
        Text.put(x, "new 23;".repeat(21) + "   ");
        for (int i = 0; i < 6; i++) {
            x.rent(i, 4 * i, 4 * i + 3);
        }
        return x;
    }
}
