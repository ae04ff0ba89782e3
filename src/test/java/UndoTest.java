/** Promises 27 and 28: undo and digest. */
final class UndoTest {

    private UndoTest() {
    }

    public static void main(String[] args) {
        depth();
        everythingComesBack();
        refusedCallsSaveNothing();
        savesWithoutChange();
        digestOfANewObject();
        digestOfAUsedObject();
        aFullPrinter();
        Check.end();
    }

    private static void depth() {
        WornDots x = new WornDots();
        for (int lines = 1; lines < 7; lines++) {
            x.cool(lines);
        }
        Check.gives("lines", 21, () -> x.whole(16));
        int[] lines = {15, 10, 6, 3};
        for (int i = 0; i < 4; i++) {
            int left = 3 - i;
            Check.gives("undo", left, x::undo);
            Check.gives("lines", lines[i], () -> x.whole(16));
        }
        Check.refusesWithoutTrace(x, "an empty stack", Check.STATE, x::undo);
        x.cool(20);
        Check.gives("undo", 0, x::undo);
        Check.gives("lines", 3, () -> x.whole(16));
        x.cool(1);
        x.cool(2);
        Check.gives("undo", 1, x::undo);
        x.cool(4);
        Check.gives("lines", 8, () -> x.whole(16));
        Check.gives("undo", 1, x::undo);
        Check.gives("undo", 0, x::undo);
        Check.gives("lines", 3, () -> x.whole(16));
    }

    private static void everythingComesBack() {
        WornDots x = HeadTest.withLabel(2, 9);
        x.set(1, 10);
        x.rent(0, 0, 5);
        x.print(0, 0, 3);
        Check.Call[] calls = {() -> x.begin(7), () -> x.set(3, 99), () -> x.addLabel(3, 3), () -> x.setRow(0, 5, 1),
            () -> x.replace(3), () -> x.cool(1), x::addCustomer, () -> x.rent(0, 6, 6), () -> x.endRent(0),
            () -> x.print(0, 0, 9), () -> x.printBest(0, 0), x::runCommands};
        Text.put(x, "head 24;client;cool 3;label 2 2;row 1 1 3;set 1 50;rent 1 2 3;print 1 1 2;");
        // With the stack cut to three states, an undo brings back the same number of them too.
        x.undo();
        x.print(0, 0, 3);
        x.undo();
        long before = x.digest();
        for (int i = 0; i < calls.length; i++) {
            calls[i].answer();
            Check.gives("undo of call " + i, 3, x::undo);
            Check.gives("state after the undo of call " + i, before, x::digest);
        }
    }

    private static void refusedCallsSaveNothing() {
        WornDots x = new WornDots();
        Check.Call[] calls = {() -> x.begin(3), () -> x.set(7, 0), () -> x.addLabel(0, 0), () -> x.setRow(0, 0, 0),
            () -> x.replace(12), () -> x.cool(0), () -> x.rent(0, 0, 0), () -> x.endRent(0), () -> x.print(0, 0, 0),
            () -> x.printBest(0, 0)};
        for (Check.Call call : calls) {
            Check.outcome(call);
            Check.refuses("nothing is saved", Check.STATE, x::undo);
        }
        Text.run(x, "x");
        Check.refuses("nothing is saved by a fault", Check.STATE, x::undo);
        x.dot(0, 0);
        x.whole(0);
        x.mostWorn();
        x.digest();
        x.clearCommands();
        Check.refuses("nothing is saved by questions", Check.STATE, x::undo);
    }

    private static void savesWithoutChange() {
        WornDots x = new WornDots();
        x.set(0, 8);
        x.cool(1);
        x.replace(0);
        x.begin(12);
        Check.gives("undo", 3, x::undo);
        Check.gives("undo", 2, x::undo);
        Check.gives("undo", 1, x::undo);
        Check.gives("undo", 0, x::undo);
        Check.gives("lines", 0, () -> x.whole(16));
    }

    private static long hashOf(long... values) {
        long hash = 43448;
        for (long value : values) {
            hash = 31 * hash + value;
        }
        return hash;
    }

    private static void digestOfANewObject() {
        long[] values = new long[1 + 18 + 12 * 5 + 1];
        long[] whole = {12, 8, 60, 100, 20, 1, 2, 5};
        System.arraycopy(whole, 0, values, 1, whole.length);
        for (int dot = 0; dot < 12; dot++) {
            values[19 + 5 * dot + 2] = -1;
        }
        long due = hashOf(values);
        Check.gives("digest of a new object", due, () -> new WornDots().digest());
    }

    private static void digestOfAUsedObject() {
        WornDots x = new WornDots();
        x.begin(4);
        x.addCustomer();
        x.addCustomer();
        x.addLabel(2, 3);
        x.addLabel(1, 1);
        x.setRow(0, 1, 3);
        x.rent(1, 1, 3);
        x.print(1, 0, 2);
        x.type(59);
        // Row 1 burns 3 units; five lines of cooling leave nothing of 30 degrees.
        long due = hashOf(4,
            4, 8, 60, 100, 20, 1, 2, 5, 2, 2, 6, 6, 1, 0, 30, 3, 6, 1,
            0, 0, -1, 0, 0,
            0, 0, 1, 0, 0,
            0, 3, 1, 3, 0,
            0, 3, 1, 3, 0,
            2, 3, 2, 1, 0, 0, 0, 3, 0, 0, 0, 0,
            1, 1, 0, 0, 0, 1, 0, 0, 0, 0, 0, 0,
            -1, -1, 0, 0, 0, 0, -1, -1,
            1, 3, 30, 0, 1, 0, 1, -1,
            2);
        Check.gives("digest of a used object", due, x::digest);
        Check.gives("again", due, x::digest);
    }

    /** As many dots, labels and customers as there can be. */
    private static void aFullPrinter() {
        WornDots x = new WornDots();
        x.begin(24);
        Text.run(x, "client;client;client;client;client;client;label 12 9;label 12 9;label 12 9;label 12 9;");
        Text.run(x, "label 12 9;label 1 1;row 5 0 1;row 4 5 4095;rent 5 12 23;print 5 4 12;print 5 5 23;");
        Check.gives("most worn", 12, x::mostWorn);
        Check.gives("paid", 12 * 9 * 5 + 5 * 991 / 1000, () -> x.whole(14));
        Check.gives("best offset", 12, () -> x.bestOffset(5, 4));
        Check.gives("best offset of a narrow label", 12, () -> x.bestOffset(5, 5));
        Check.gives("the last dot", 5, () -> x.dot(23, 2));
        long before = x.digest();
        Check.gives("begin", 108, () -> x.begin(4));
        Check.gives("rented", 0, () -> x.whole(15));
        Check.gives("undo", 3, x::undo);
        Check.gives("digest", before, () -> x.digest());
    }
}
