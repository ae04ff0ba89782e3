/** Promises 4, 5, 14 and 15: addLabel, setRow, label and row. */
final class LabelTest {

    private LabelTest() {
    }

    public static void main(String[] args) {
        addLabel();
        aPlaceIsUsedAgain();
        setRow();
        wrongRows();
        labelValues();
        row();
        Check.end();
    }

    private static void addLabel() {
        WornDots x = new WornDots();
        int[][] wrong = {{0, 1}, {13, 1}, {1, 0}, {1, 10}, {-1, 5}, {5, -1},
            {Integer.MIN_VALUE, 1}, {Integer.MAX_VALUE, 1}, {1, Integer.MIN_VALUE}, {1, Integer.MAX_VALUE}};
        for (int[] pair : wrong) {
            Check.refusesWithoutTrace(x, "addLabel(" + pair[0] + ", " + pair[1] + ")", Check.ARGUMENT,
                () -> x.addLabel(pair[0], pair[1]));
        }
        int[][] fine = {{1, 1}, {12, 9}, {12, 1}, {1, 9}, {6, 5}, {2, 2}};
        for (int i = 0; i < fine.length; i++) {
            int[] pair = fine[i];
            Check.gives("labels", i, () -> x.whole(8));
            Check.gives("addLabel", i, () -> x.addLabel(pair[0], pair[1]));
        }
        for (int i = 0; i < fine.length; i++) {
            int label = i;
            Check.gives("width", fine[i][0], () -> x.label(label, 0));
            Check.gives("blackness", fine[i][1], () -> x.label(label, 1));
            Check.gives("black cells", 0, () -> x.label(label, 2));
            Check.gives("printed", 0, () -> x.label(label, 3));
            Check.gives("not read", 0, () -> x.label(label, 4));
            Check.gives("columns", (1 << fine[i][0]) - 1, () -> x.label(label, 5));
        }
        Check.refusesWithoutTrace(x, "a seventh label", Check.STATE, () -> x.addLabel(1, 1));
        Check.refuses("a seventh label of no width", Check.ARGUMENT, () -> x.addLabel(0, 1));
        Check.gives("undo of addLabel", 3, x::undo);
        Check.gives("labels", 5, () -> x.whole(8));
    }

    private static void aPlaceIsUsedAgain() {
        WornDots x = new WornDots();
        x.addCustomer();
        x.addLabel(3, 9);
        x.setRow(0, 4, 7);
        x.set(5, 0);
        x.set(1, 10);
        x.set(0, 0);
        Text.run(x, "label 3 9;row 1 0 7;row 1 1 1;print 0 1 0;");
        Check.gives("not read", 1, () -> x.label(1, 4));
        x.undo();
        Check.gives("labels", 1, () -> x.whole(8));
        x.addLabel(2, 2);
        Check.gives("black cells of a new label", 0, () -> x.label(1, 2));
        Check.gives("printed", 0, () -> x.label(1, 3));
        Check.gives("not read", 0, () -> x.label(1, 4));
        Check.gives("the first label stays", 7, () -> x.row(0, 4));
    }

    private static void setRow() {
        WornDots x = new WornDots();
        x.addLabel(12, 1);
        x.addLabel(1, 1);
        Check.gives("setRow", 0, () -> x.setRow(0, 0, 4095));
        Check.gives("setRow again", 4095, () -> x.setRow(0, 0, 2048));
        Check.gives("row", 2048, () -> x.row(0, 0));
        Check.gives("setRow of the last row", 0, () -> x.setRow(0, 5, 1));
        Check.gives("setRow of the narrowest", 0, () -> x.setRow(1, 5, 1));
        Check.gives("setRow to white", 1, () -> x.setRow(1, 5, 0));
        Check.gives("undo of setRow", 3, x::undo);
        Check.gives("row before", 1, () -> x.row(1, 5));
        Check.gives("other rows", 0, () -> x.row(0, 3));
    }

    private static void wrongRows() {
        WornDots x = new WornDots();
        Check.refuses("no label", Check.INDEX, () -> x.setRow(0, 0, 0));
        x.addLabel(3, 1);
        int[][] noSuch = {{1, 0, 0}, {-1, 0, 0}, {6, 0, 0}, {1, 6, 9},
            {Integer.MIN_VALUE, 0, 0}, {Integer.MAX_VALUE, -1, -1}};
        for (int[] a : noSuch) {
            Check.refusesWithoutTrace(x, "setRow of no label", Check.INDEX, () -> x.setRow(a[0], a[1], a[2]));
        }
        int[][] wrong = {{0, 6, 0}, {0, -1, 0}, {0, 0, 8}, {0, 0, -1}, {0, Integer.MAX_VALUE, 0},
            {0, Integer.MIN_VALUE, 0}, {0, 0, Integer.MAX_VALUE}, {0, 0, Integer.MIN_VALUE}};
        for (int[] a : wrong) {
            Check.refusesWithoutTrace(x, "setRow(" + a[0] + ", " + a[1] + ", " + a[2] + ")", Check.ARGUMENT,
                () -> x.setRow(a[0], a[1], a[2]));
        }
    }

    private static void labelValues() {
        WornDots x = new WornDots();
        x.addCustomer();
        x.addLabel(5, 4);
        x.setRow(0, 0, 9);
        x.setRow(0, 3, 11);
        Check.gives("width", 5, () -> x.label(0, 0));
        Check.gives("blackness", 4, () -> x.label(0, 1));
        Check.gives("black cells", 5, () -> x.label(0, 2));
        Check.gives("columns without black cells", 20, () -> x.label(0, 5));
        x.addLabel(6, 1);
        for (int row = 0; row < 6; row++) {
            x.setRow(1, row, 1 << row);
            long left = 63 - ((2 << row) - 1);
            Check.gives("columns without black cells", left, () -> x.label(1, 5));
        }
        x.print(0, 0, 0);
        Check.gives("printed", 1, () -> x.label(0, 3));
        Check.gives("not read", 0, () -> x.label(0, 4));
        x.set(2, 0);
        x.set(3, 1);
        x.set(4, 0);
        x.print(0, 0, 0);
        Check.gives("printed", 2, () -> x.label(0, 3));
        Check.gives("not read", 1, () -> x.label(0, 4));
        Check.refuses("what too high", Check.ARGUMENT, () -> x.label(0, 6));
        Check.refuses("what too low", Check.ARGUMENT, () -> x.label(0, -1));
        Check.refuses("no such label", Check.INDEX, () -> x.label(2, 0));
        Check.refuses("no such label, first of two", Check.INDEX, () -> x.label(-1, 6));
        Check.refuses("no such label", Check.INDEX, () -> x.label(6, 0));
    }

    private static void row() {
        WornDots x = new WornDots();
        Check.refuses("no label", Check.INDEX, () -> x.row(0, 0));
        x.addLabel(4, 1);
        for (int row = 0; row < 6; row++) {
            int r = row;
            Check.gives("white", 0, () -> x.row(0, r));
            x.setRow(0, r, r + 5);
        }
        for (int row = 0; row < 6; row++) {
            int r = row;
            Check.gives("row " + r, r + 5, () -> x.row(0, r));
        }
        Check.refuses("row too high", Check.ARGUMENT, () -> x.row(0, 6));
        Check.refuses("row too low", Check.ARGUMENT, () -> x.row(0, -1));
        Check.refuses("no such label, first of two", Check.INDEX, () -> x.row(1, 6));
        Check.refuses("no such label", Check.INDEX, () -> x.row(Integer.MIN_VALUE, 0));
    }
}
