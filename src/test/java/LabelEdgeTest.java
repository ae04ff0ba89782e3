/** The boundary cases of labels: promises 4, 5, 14 and 15, and what the terms say of their cells. */
final class LabelEdgeTest {

    private static final int MIN = Integer.MIN_VALUE;
    private static final int MAX = Integer.MAX_VALUE;

    private LabelEdgeTest() {
    }

    public static void main(String[] args) {
        mostLabels();
        aNewLabel();
        widths();
        blacknesses();
        numberOfTheLabel();
        sixLabels();
        undoOfAddLabel();
        noSuchLabelToSet();
        rows();
        cells();
        previousSet();
        undoOfSetRow();
        noSuchLabel();
        noSuchLabelValue();
        blackCells();
        columnsWithoutBlackCells();
        howOftenPrinted();
        noSuchLabelOfRow();
        noSuchRow();
        setOfARow();
        Check.end();
    }

    // ---- the terms

    private static void mostLabels() {
        Check.sentence("There are at most 6 labels, numbered from 0.");
        WornDots x = new WornDots();
        for (int i = 0; i < 6; i++) {
            int n = i;
            Check.refuses("label " + n, Check.INDEX, () -> x.label(n, 0));
            Check.gives("addLabel", n, () -> x.addLabel(1, 1));
            Check.gives("label " + n, 1, () -> x.label(n, 0));
            Check.gives("labels", n + 1, () -> x.whole(8));
        }
        Check.refuses("a seventh one", Check.STATE, () -> x.addLabel(1, 1));
        Check.refuses("label 6", Check.INDEX, () -> x.label(6, 0));
        Check.refuses("label -1", Check.INDEX, () -> x.label(-1, 0));
    }

    private static void aNewLabel() {
        Check.sentence("Adds a label whose cells are white.");
        WornDots x = new WornDots();
        x.addLabel(12, 9);
        x.addLabel(1, 1);
        for (int label = 0; label < 2; label++) {
            int n = label;
            for (int row = 0; row < 6; row++) {
                int r = row;
                Check.gives("row " + r, 0, () -> x.row(n, r));
            }
            Check.gives("black cells", 0, () -> x.label(n, 2));
            Check.gives("printed", 0, () -> x.label(n, 3));
            Check.gives("not read", 0, () -> x.label(n, 4));
        }
    }

    // ---- promise 4

    private static void widths() {
        Check.sentence("Throws `IllegalArgumentException` if an argument is out of range");
        int[] wrong = {0, 13, -1, MIN, MAX};
        for (int width : wrong) {
            Twins.refuse("addLabel(" + width + ", 5)", Check.ARGUMENT, Scene::busy, x -> x.addLabel(width, 5));
        }
        Check.sentence("`width`: 1 to 12");
        for (int width = 1; width < 13; width++) {
            int w = width;
            WornDots x = new WornDots();
            Check.gives("addLabel(" + w + ", 5)", 0, () -> x.addLabel(w, 5));
            Check.gives("width", w, () -> x.label(0, 0));
        }
    }

    private static void blacknesses() {
        Check.sentence("Throws `IllegalArgumentException` if an argument is out of range");
        int[] wrong = {0, 10, -1, MIN, MAX};
        for (int blackness : wrong) {
            Twins.refuse("addLabel(5, " + blackness + ")", Check.ARGUMENT, Scene::busy, x -> x.addLabel(5, blackness));
        }
        Check.sentence("`blackness`: 1 to 9");
        for (int blackness = 1; blackness < 10; blackness++) {
            int b = blackness;
            WornDots x = new WornDots();
            Check.gives("addLabel(5, " + b + ")", 0, () -> x.addLabel(5, b));
            Check.gives("blackness", b, () -> x.label(0, 1));
        }
    }

    private static void numberOfTheLabel() {
        Check.sentence("Returns the number of the label.");
        Check.gives("the first one", 0, () -> new WornDots().addLabel(12, 9));
        Check.gives("the fourth one", 3, () -> Scene.busy().addLabel(1, 1));
        WornDots x = Scene.busy();
        x.addLabel(7, 7);
        x.setRow(3, 0, 127);
        x.undo();
        x.undo();
        Check.gives("one that was added and undone", 3, () -> x.addLabel(2, 2));
        Check.gives("it is white", 0, () -> x.label(3, 2));
        Check.gives("its width", 2, () -> x.label(3, 0));
    }

    private static void sixLabels() {
        Check.sentence("Throws `IllegalStateException` if there are 6 labels");
        Twins.refuse("addLabel(1, 1)", Check.STATE, Scene::full, x -> x.addLabel(1, 1));
        Twins.refuse("addLabel(12, 9)", Check.STATE, Scene::full, x -> x.addLabel(12, 9));
        Check.sentence("If several exceptions of a method apply, the one that is listed first is thrown.");
        int[][] wrong = {{0, 1}, {13, 1}, {1, 0}, {1, 10}, {0, 10}};
        for (int[] a : wrong) {
            Twins.refuse("addLabel(" + a[0] + ", " + a[1] + ")", Check.ARGUMENT, Scene::full,
                x -> x.addLabel(a[0], a[1]));
        }
    }

    private static void undoOfAddLabel() {
        Check.sentence("Adds a label whose cells are white. Undoable.");
        Twins.undo("addLabel(1, 1)", x -> x.addLabel(1, 1));
        Twins.undo("addLabel(12, 9)", x -> x.addLabel(12, 9));
        WornDots x = new WornDots();
        for (int i = 0; i < 6; i++) {
            x.addLabel(1, 1);
        }
        x.undo();
        Check.gives("the sixth one once more", 5, () -> x.addLabel(2, 3));
    }

    // ---- promise 5

    private static void noSuchLabelToSet() {
        Check.sentence("Throws `IndexOutOfBoundsException` if there is no such label");
        int[] wrong = {-1, 3, 5, 6, MIN, MAX};
        int[][] rowAndCells = {{0, 0}, {-1, 0}, {6, 0}, {0, -1}, {0, 4096}, {6, 4096}};
        for (int label : wrong) {
            for (int[] a : rowAndCells) {
                Check.refuses("setRow(" + label + ", " + a[0] + ", " + a[1] + ")", Check.INDEX,
                    () -> Scene.busy().setRow(label, a[0], a[1]));
            }
            Twins.refuse("setRow(" + label + ", 0, 0)", Check.INDEX, Scene::busy, x -> x.setRow(label, 0, 0));
        }
        Check.refuses("setRow of a seventh one", Check.INDEX, () -> Scene.full().setRow(6, 0, 0));
        Check.refuses("setRow without labels", Check.INDEX, () -> new WornDots().setRow(0, 0, 0));
        Check.gives("setRow of the last one", 1, () -> Scene.full().setRow(5, 5, 0));
    }

    private static void rows() {
        Check.sentence("Throws `IllegalArgumentException` if row or cells is out of range");
        int[] wrong = {-1, 6, MIN, MAX};
        for (int row : wrong) {
            Twins.refuse("setRow(0, " + row + ", 0)", Check.ARGUMENT, Scene::busy, x -> x.setRow(0, row, 0));
        }
        Check.sentence("`row`: 0 to 5");
        for (int row = 0; row < 6; row++) {
            int r = row;
            WornDots x = new WornDots();
            x.addLabel(3, 1);
            Check.gives("setRow(0, " + r + ", 5)", 0, () -> x.setRow(0, r, 5));
            for (int other = 0; other < 6; other++) {
                int o = other;
                Check.gives("row " + o, o == r ? 5 : 0, () -> x.row(0, o));
            }
        }
    }

    private static void cells() {
        Check.sentence("`cells`: a set of columns, below 2 to the power of its width");
        for (int width = 1; width < 13; width++) {
            int w = width;
            int end = 1 << w;
            int[] wrong = {-1, end, end + 1, 2 * end - 1, MIN, MAX};
            WornDots x = new WornDots();
            x.addLabel(12, 9);
            x.addLabel(w, 1);
            for (int cells : wrong) {
                Check.refusesWithoutTrace(x, "width " + w + ": setRow(1, 5, " + cells + ")", Check.ARGUMENT,
                    () -> x.setRow(1, 5, cells));
            }
            Check.gives("all columns", 0, () -> x.setRow(1, 5, end - 1));
            Check.gives("row", end - 1, () -> x.row(1, 5));
            Check.gives("no column", end - 1, () -> x.setRow(1, 5, 0));
            Check.gives("row", 0, () -> x.row(1, 5));
        }
        Check.sentence("Throws `IllegalArgumentException` if row or cells is out of range");
        Twins.refuse("setRow(0, 0, 8)", Check.ARGUMENT, Scene::busy, x -> x.setRow(0, 0, 8));
        Twins.refuse("setRow(0, 0, -1)", Check.ARGUMENT, Scene::busy, x -> x.setRow(0, 0, -1));
        Twins.refuse("setRow(1, 0, 4096)", Check.ARGUMENT, Scene::busy, x -> x.setRow(1, 0, 4096));
    }

    private static void previousSet() {
        Check.sentence("Returns the previous set.");
        WornDots x = new WornDots();
        x.addLabel(12, 9);
        Check.gives("none", 0, () -> x.setRow(0, 3, 4095));
        Check.gives("the most", 4095, () -> x.setRow(0, 3, 2048));
        Check.gives("the last column", 2048, () -> x.setRow(0, 3, 1));
        Check.gives("the first column", 1, () -> x.setRow(0, 3, 1));
        Check.gives("the same again", 1, () -> x.setRow(0, 3, 0));
        Check.gives("none again", 0, () -> x.setRow(0, 3, 0));
    }

    private static void undoOfSetRow() {
        Check.sentence("Sets the black cells of a row of a label. Undoable.");
        Twins.undo("setRow(0, 0, 2)", x -> x.setRow(0, 0, 2));
        Twins.undo("setRow to the same", x -> x.setRow(0, 0, 7));
        Twins.undo("setRow(2, 5, 3)", x -> x.setRow(2, 5, 3));
    }

    // ---- promise 14

    private static void noSuchLabel() {
        Check.sentence("Throws `IndexOutOfBoundsException` if there is no such label");
        int[] wrong = {-1, 3, 5, 6, MIN, MAX};
        int[] whats = {0, 5, -1, 6, MIN, MAX};
        for (int label : wrong) {
            for (int what : whats) {
                Check.refuses("label(" + label + ", " + what + ")", Check.INDEX, () -> Scene.busy().label(label, what));
            }
            Twins.refuse("label(" + label + ", 0)", Check.INDEX, Scene::busy, x -> x.label(label, 0));
        }
        Check.refuses("label without labels", Check.INDEX, () -> new WornDots().label(0, 0));
        Check.refuses("a seventh one", Check.INDEX, () -> Scene.full().label(6, 0));
    }

    private static void noSuchLabelValue() {
        Check.sentence("Throws `IllegalArgumentException` if what is out of range");
        int[] wrong = {-1, 6, MIN, MAX};
        for (int what : wrong) {
            Twins.refuse("label(0, " + what + ")", Check.ARGUMENT, Scene::busy, x -> x.label(0, what));
        }
        long[] due = {3, 9, 5, 2, 1, 0};
        for (int what = 0; what < 6; what++) {
            int w = what;
            Twins.give("label(0, " + w + ")", due[w], Scene::busy, x -> x.label(0, w));
        }
    }

    private static void blackCells() {
        Check.sentence("`what`: 0 width, 1 blackness, 2 number of black cells, 3 how often it was printed, 4 how often "
            + "of these it could not be read, 5 set of the columns without black cells");
        WornDots x = new WornDots();
        x.addLabel(12, 9);
        Check.gives("none", 0, () -> x.label(0, 2));
        for (int row = 0; row < 6; row++) {
            int r = row;
            x.setRow(0, r, 1 << 11);
            Check.gives("one more", 12L * r + 1, () -> x.label(0, 2));
            x.setRow(0, r, 4095);
            Check.gives("a row more", 12L * (r + 1), () -> x.label(0, 2));
        }
        x.setRow(0, 5, 0);
        Check.gives("a row less", 60, () -> x.label(0, 2));
    }

    private static void columnsWithoutBlackCells() {
        Check.sentence("5 set of the columns without black cells");
        WornDots x = new WornDots();
        x.addLabel(12, 9);
        x.addLabel(1, 9);
        Check.gives("all of the most", 4095, () -> x.label(0, 5));
        Check.gives("all of the fewest", 1, () -> x.label(1, 5));
        x.setRow(1, 5, 1);
        Check.gives("none of the fewest", 0, () -> x.label(1, 5));
        x.setRow(0, 5, 1);
        Check.gives("all but the first", 4094, () -> x.label(0, 5));
        x.setRow(0, 0, 2048);
        Check.gives("all but the first and the last", 2046, () -> x.label(0, 5));
        x.setRow(0, 3, 4094);
        Check.gives("none of the most", 0, () -> x.label(0, 5));
        x.setRow(0, 5, 0);
        Check.gives("the first", 1, () -> x.label(0, 5));
    }

    private static void howOftenPrinted() {
        Check.sentence("3 how often it was printed, 4 how often of these it could not be read");
        WornDots x = Scene.oneCell(9, 0);
        x.addLabel(1, 9);
        x.setRow(1, 5, 1);
        // Of the first label 5 white cells are smeared with a cooling of 0 and a smear heat of 60.
        x.set(0, 0);
        x.set(5, 5);
        x.print(0, 0, 0);
        x.print(0, 1, 3);
        Check.gives("printed", 1, () -> x.label(0, 3));
        Check.gives("not read", 0, () -> x.label(0, 4));
        x.set(5, 4);
        x.print(0, 0, 1);
        Check.gives("printed", 2, () -> x.label(0, 3));
        Check.gives("not read", 1, () -> x.label(0, 4));
        Check.gives("the other one: printed", 1, () -> x.label(1, 3));
        Check.gives("the other one: not read", 0, () -> x.label(1, 4));
    }

    // ---- promise 15

    private static void noSuchLabelOfRow() {
        Check.sentence("Throws `IndexOutOfBoundsException` if there is no such label");
        int[] wrong = {-1, 3, 5, 6, MIN, MAX};
        int[] rows = {0, 5, -1, 6, MIN, MAX};
        for (int label : wrong) {
            for (int row : rows) {
                Check.refuses("row(" + label + ", " + row + ")", Check.INDEX, () -> Scene.busy().row(label, row));
            }
            Twins.refuse("row(" + label + ", 0)", Check.INDEX, Scene::busy, x -> x.row(label, 0));
        }
        Check.refuses("row without labels", Check.INDEX, () -> new WornDots().row(0, 0));
        Check.refuses("a seventh one", Check.INDEX, () -> Scene.full().row(6, 0));
    }

    private static void noSuchRow() {
        Check.sentence("Throws `IllegalArgumentException` if row is out of range");
        int[] wrong = {-1, 6, MIN, MAX};
        for (int row : wrong) {
            Twins.refuse("row(0, " + row + ")", Check.ARGUMENT, Scene::busy, x -> x.row(0, row));
        }
        Twins.give("row(0, 0)", 7, Scene::busy, x -> x.row(0, 0));
        Twins.give("row(1, 5)", 4095, Scene::busy, x -> x.row(1, 5));
    }

    private static void setOfARow() {
        Check.sentence("each with a set of black cells, bit c for the column c (empty at first).");
        WornDots x = new WornDots();
        x.addLabel(12, 9);
        x.addCustomer();
        x.set(0, 30);
        for (int column = 0; column < 12; column++) {
            int c = column;
            x.setRow(0, c % 6, 1 << c);
            Check.gives("row", 1 << c, () -> x.row(0, c % 6));
            x.print(0, 0, 0);
            for (int dot = 0; dot < 12; dot++) {
                int d = dot;
                Check.gives("column " + c + " burns dot " + d, d == c ? 9 : 0, () -> x.dot(d, 1));
            }
            x.begin(12);
            x.setRow(0, c % 6, 0);
        }
    }
}
