/** The boundary cases of the head: promises 1 to 3, 6, 7, 13 and 23, and what the terms say of dots and settings. */
final class HeadEdgeTest {

    private static final int MIN = Integer.MIN_VALUE;
    private static final int MAX = Integer.MAX_VALUE;
    private static final int[] FIRST = {8, 60, 100, 20, 1, 2, 5};
    private static final int[] LOW = {0, 10, 0, 1, 0, 0, 1};
    private static final int[] HIGH = {30, 90, 9999, 100, 8, 20, 100};

    private HeadEdgeTest() {
    }

    public static void main(String[] args) {
        dotsAtFirst();
        fewestDots();
        mostDots();
        heatOfADot();
        wearOfADot();
        nothingInANewObject();
        settingsAtFirst();
        newHeads();
        rangeOfDots();
        sumOfTheWears();
        withoutHeatAndWear();
        nothingIsRentedThen();
        theRestStays();
        undoOfBegin();
        rangesOfSettings();
        rangeOfWhatToSet();
        previousSetting();
        replacedDots();
        noSuchDotToReplace();
        wearThatItHad();
        whoRentsItStays();
        rangeOfLines();
        allDotsCool();
        sumOfTheHeats();
        valuesOfADot();
        noSuchDot();
        noSuchDotValue();
        fadeAroundTheWearLimit();
        fadeIsRoundedDown();
        mostWornDot();
        Check.end();
    }

    // ---- the head

    private static void dotsAtFirst() {
        Check.sentence("The head has dots (4 to 24; 12 at first), numbered from 0.");
        WornDots x = new WornDots();
        Check.gives("dots", 12, () -> x.whole(0));
        Check.gives("dot 0", 0, () -> x.dot(0, 0));
        Check.gives("dot 11", 0, () -> x.dot(11, 0));
        Check.refuses("dot 12", Check.INDEX, () -> x.dot(12, 0));
        Check.refuses("dot -1", Check.INDEX, () -> x.dot(-1, 0));
    }

    private static void fewestDots() {
        Check.sentence("The head has dots (4 to 24; 12 at first), numbered from 0.");
        WornDots x = new WornDots();
        x.begin(4);
        Check.gives("dots", 4, () -> x.whole(0));
        Check.gives("dot 3", 0, () -> x.dot(3, 0));
        Check.refuses("dot 4", Check.INDEX, () -> x.dot(4, 0));
    }

    private static void mostDots() {
        Check.sentence("The head has dots (4 to 24; 12 at first), numbered from 0.");
        WornDots x = new WornDots();
        x.begin(24);
        Check.gives("dots", 24, () -> x.whole(0));
        Check.gives("dot 23", 0, () -> x.dot(23, 0));
        Check.refuses("dot 24", Check.INDEX, () -> x.dot(24, 0));
    }

    private static void heatOfADot() {
        Check.sentence("A dot has heat (0 to 90) and wear (0 to 9999), both 0 at first.");
        Check.gives("at first", 0, () -> new WornDots().dot(11, 0));
        WornDots x = Scene.oneCell(9, 0);
        x.set(0, 0);
        x.print(0, 0, 0);
        Check.gives("the most", 90, () -> x.dot(0, 0));
        x.print(0, 0, 0);
        Check.gives("no more than that", 90, () -> x.dot(0, 0));
        x.set(0, 1);
        x.cool(1);
        Check.gives("one less", 89, () -> x.dot(0, 0));
        x.set(0, 30);
        x.cool(20);
        Check.gives("none", 0, () -> x.dot(0, 0));
    }

    private static void wearOfADot() {
        Check.sentence("A dot has heat (0 to 90) and wear (0 to 9999), both 0 at first.");
        Check.gives("at first", 0, () -> new WornDots().dot(11, 1));
        WornDots x = Scene.wornDot(9997);
        long[] wears = {9997, 9998, 9999, 9999, 9999};
        for (long wear : wears) {
            Check.gives("wear", wear, () -> x.dot(0, 1));
            Check.gives("sum of the wears", wear, () -> x.whole(10));
            x.print(0, 1, 0);
        }
    }

    // ---- promise 1

    private static void nothingInANewObject() {
        Check.sentence("without labels and customers, with the settings as at first, an empty command text and an "
            + "empty undo stack.");
        Check.gives("labels", 0, () -> new WornDots().whole(8));
        Check.gives("customers", 0, () -> new WornDots().whole(9));
        Check.refuses("label 0", Check.INDEX, () -> new WornDots().label(0, 0));
        Check.refuses("customer 0", Check.INDEX, () -> new WornDots().customer(0, 0));
        Check.gives("length of the text", 0, () -> new WornDots().whole(17));
        Check.gives("clearCommands", 0, () -> new WornDots().clearCommands());
        Check.gives("runCommands", 0, () -> new WornDots().runCommands());
        Check.refuses("undo", Check.STATE, () -> new WornDots().undo());
        for (int what = 10; what < 17; what++) {
            int w = what;
            Check.gives("whole " + w, 0, () -> new WornDots().whole(w));
        }
    }

    private static void settingsAtFirst() {
        Check.sentence("There are seven settings: 0 cooling (0 to 30; 8 at first), 1 smear heat (10 to 90; 60 at "
            + "first), 2 wear limit (0 to 9999; 100 at first), 3 fading (1 to 100; 20 at first), 4 tolerance (0 to 8; "
            + "1 at first), 5 allowance (0 to 20; 2 at first), 6 unit price (1 to 100; 5 at first).");
        for (int what = 0; what < 7; what++) {
            int w = what;
            Check.gives("setting " + w, FIRST[w], () -> new WornDots().whole(w + 1));
        }
    }

    private static void newHeads() {
        Check.sentence("Creates a new head of 12 dots");
        WornDots used = Scene.busy();
        WornDots x = new WornDots();
        Check.gives("another object has nothing of a used one", 0, () -> x.whole(10));
        Check.gives("and has its own dots", 12, () -> x.whole(0));
        Check.gives("the used one keeps its own", 10, () -> used.whole(0));
    }

    // ---- promise 2

    private static void rangeOfDots() {
        Check.sentence("Throws `IllegalArgumentException` if dots is out of range");
        int[] wrong = {3, 25, 0, -1, 12 - 256, MIN, MAX};
        for (int dots : wrong) {
            Twins.refuse("begin(" + dots + ")", Check.ARGUMENT, Scene::busy, x -> x.begin(dots));
        }
        Check.sentence("`dots`: 4 to 24");
        for (int dots = 4; dots < 25; dots++) {
            int d = dots;
            WornDots x = new WornDots();
            Check.gives("begin(" + d + ")", 0, () -> x.begin(d));
            Check.gives("dots", d, () -> x.whole(0));
        }
    }

    private static void sumOfTheWears() {
        Check.sentence("Returns the sum of the wears of the previous head.");
        WornDots none = new WornDots();
        Check.gives("none", 0, () -> none.begin(24));
        Check.gives("of all dots", 4 * 9999, () -> Scene.wornDots(9999, 15).begin(4));
        Check.gives("of the first dot", 9999, () -> Scene.wornDots(9999, 1).begin(4));
        Check.gives("of the last dot", 24, () -> Scene.wornDots(24, 8).begin(4));
        WornDots x = Scene.oneCell(1, 0);
        x.print(0, 0, 0);
        Check.gives("of the head before", 1, () -> x.begin(5));
        Check.gives("not of the one before that", 0, () -> x.begin(6));
    }

    private static void withoutHeatAndWear() {
        Check.sentence("Begins with a new head of so many dots, without heat and wear; nothing is rented then.");
        int[] counts = {12, 4, 24};
        for (int dots : counts) {
            WornDots x = new WornDots();
            x.addCustomer();
            x.addLabel(12, 9);
            x.setRow(0, 0, 4095);
            x.print(0, 0, 0);
            x.begin(dots);
            for (int dot = 0; dot < dots; dot++) {
                int d = dot;
                Check.gives("heat", 0, () -> x.dot(d, 0));
                Check.gives("wear", 0, () -> x.dot(d, 1));
                Check.gives("burnt", 0, () -> x.dot(d, 3));
            }
        }
        WornDots x = Scene.oneCell(9, 0);
        x.begin(24);
        x.print(0, 0, 23);
        x.begin(24);
        Check.gives("the last dot of the most", 0, () -> x.dot(23, 1));
        x.print(0, 0, 23);
        x.begin(4);
        x.begin(24);
        for (int what = 0; what < 5; what++) {
            int w = what;
            Check.gives("a dot that was gone in between", w == 2 ? -1 : 0, () -> x.dot(23, w));
        }
    }

    private static void nothingIsRentedThen() {
        Check.sentence("Begins with a new head of so many dots, without heat and wear; nothing is rented then.");
        WornDots x = Scene.full();
        Check.gives("rented before", 24, () -> x.whole(15));
        x.begin(24);
        Check.gives("rented", 0, () -> x.whole(15));
        for (int i = 0; i < 6; i++) {
            int k = i;
            Check.gives("first dot", -1, () -> x.customer(k, 0));
            Check.gives("last dot", -1, () -> x.customer(k, 1));
            Check.refuses("endRent", Check.STATE, () -> x.endRent(k));
        }
        for (int dot = 0; dot < 24; dot++) {
            int d = dot;
            Check.gives("renter", -1, () -> x.dot(d, 2));
        }
        Check.gives("all dots are free", 24, () -> x.rent(3, 0, 23));
    }

    private static void theRestStays() {
        Check.sentence("Labels, customers with their money, and settings stay.");
        WornDots x = Scene.busy();
        long[] money = new long[3];
        for (int k = 0; k < 3; k++) {
            money[k] = x.customer(k, 2) * 1000L + x.customer(k, 3) + x.customer(k, 4) + x.customer(k, 5);
        }
        int[] whole = {1, 2, 3, 4, 5, 6, 7, 8, 9, 11, 12, 13, 14, 16, 17};
        long[] before = new long[18];
        for (int what : whole) {
            before[what] = x.whole(what);
        }
        x.begin(4);
        for (int what : whole) {
            Check.gives("whole " + what, before[what], () -> x.whole(what));
        }
        for (int k = 0; k < 3; k++) {
            int c = k;
            Check.gives("money", money[k], () ->
                x.customer(c, 2) * 1000L + x.customer(c, 3) + x.customer(c, 4) + x.customer(c, 5));
        }
        Check.gives("width", 3, () -> x.label(0, 0));
        Check.gives("printed", 2, () -> x.label(0, 3));
        Check.gives("row", 7, () -> x.row(0, 0));
    }

    private static void undoOfBegin() {
        Check.sentence("Labels, customers with their money, and settings stay. Undoable.");
        int[] counts = {4, 10, 24};
        for (int dots : counts) {
            Twins.undo("begin(" + dots + ")", x -> x.begin(dots));
        }
    }

    // ---- promise 3

    private static void rangesOfSettings() {
        for (int what = 0; what < 7; what++) {
            int w = what;
            Check.sentence("Throws `IllegalArgumentException` if what or value is out of range");
            int[] wrong = {LOW[w] - 1, HIGH[w] + 1, MIN, MAX};
            for (int value : wrong) {
                Twins.refuse("set(" + w + ", " + value + ")", Check.ARGUMENT, Scene::busy, x -> x.set(w, value));
            }
            Check.sentence("`value`: the new value, in its range");
            int[] fine = {LOW[w], HIGH[w], LOW[w] + 1, HIGH[w] - 1};
            WornDots x = new WornDots();
            for (int value : fine) {
                Check.compare("set(" + w + ", " + value + ") is fine", "true",
                    Boolean.toString(Check.outcome(() -> x.set(w, value)).matches("[0-9]+")));
                Check.gives("whole " + (w + 1), value, () -> x.whole(w + 1));
            }
            for (int other = 0; other < 7; other++) {
                int o = other;
                Check.gives("setting " + o, o == w ? HIGH[w] - 1 : FIRST[o], () -> x.whole(o + 1));
            }
        }
    }

    private static void rangeOfWhatToSet() {
        Check.sentence("`what`: 0 cooling, 1 smear heat, 2 wear limit, 3 fading, 4 tolerance, 5 allowance, "
            + "6 unit price");
        int[] wrong = {-1, 7, MIN, MAX};
        int[] values = {0, 1, 10, -1, MAX};
        for (int what : wrong) {
            for (int value : values) {
                Twins.refuse("set(" + what + ", " + value + ")", Check.ARGUMENT, Scene::busy, x -> x.set(what, value));
            }
        }
    }

    private static void previousSetting() {
        Check.sentence("Returns the previous value.");
        for (int what = 0; what < 7; what++) {
            int w = what;
            WornDots x = new WornDots();
            Check.gives("to the lowest", FIRST[w], () -> x.set(w, LOW[w]));
            Check.gives("to the highest", LOW[w], () -> x.set(w, HIGH[w]));
            Check.gives("to the same", HIGH[w], () -> x.set(w, HIGH[w]));
            Check.gives("and again", HIGH[w], () -> x.set(w, LOW[w]));
            Twins.undo("set(" + w + ", lowest)", y -> y.set(w, LOW[w]));
            Twins.undo("set(" + w + ", highest)", y -> y.set(w, HIGH[w]));
        }
    }

    // ---- promise 6

    private static void replacedDots() {
        Check.sentence("Replaces a dot by a new one, without heat and wear; who rents it stays.");
        int[] dots = {0, 3};
        for (int dot : dots) {
            WornDots x = Scene.wornDots(24, 15);
            x.print(0, 0, 0);
            x.replace(dot);
            for (int other = 0; other < 4; other++) {
                int o = other;
                Check.gives("heat of " + o, o == dot ? 0 : 60, () -> x.dot(o, 0));
                Check.gives("wear of " + o, o == dot ? 0 : 48, () -> x.dot(o, 1));
                Check.gives("burnt of " + o, o == dot ? 0 : 48, () -> x.dot(o, 3));
            }
            Check.gives("sum of the wears", 144, () -> x.whole(10));
            Check.gives("burnt, also by the dot that is gone", 192, () -> x.whole(11));
            Twins.undo("replace(" + dot + ")", y -> y.replace(dot));
        }
    }

    private static void noSuchDotToReplace() {
        Check.sentence("Throws `IndexOutOfBoundsException` if there is no such dot");
        int[] wrong = {-1, 10, 23, 24, MIN, MAX};
        for (int dot : wrong) {
            Twins.refuse("replace(" + dot + ")", Check.INDEX, Scene::busy, x -> x.replace(dot));
        }
        Twins.refuse("replace(24)", Check.INDEX, Scene::full, x -> x.replace(24));
        Check.gives("the last of 24", 0, () -> Scene.full().replace(23));
        Check.gives("the last of 10", 13, () -> Scene.busy().replace(9));
    }

    private static void wearThatItHad() {
        Check.sentence("Returns the wear that it had.");
        Check.gives("none", 0, () -> new WornDots().replace(0));
        Check.gives("some", 24, () -> Scene.wornDot(24).replace(0));
        WornDots x = Scene.wornDot(9999);
        Check.gives("the most", 9999, () -> x.replace(0));
        Check.gives("none any more", 0, () -> x.replace(0));
    }

    private static void whoRentsItStays() {
        Check.sentence("Replaces a dot by a new one, without heat and wear; who rents it stays.");
        WornDots x = Scene.busy();
        int[] renters = {0, 0, 0, 0, 1, 1, -1, -1, -1, -1};
        for (int dot = 0; dot < 10; dot++) {
            int d = dot;
            x.replace(d);
            Check.gives("renter of " + d, renters[d], () -> x.dot(d, 2));
        }
        Check.gives("rented", 6, () -> x.whole(15));
        x.rent(2, 9, 9);
        x.replace(9);
        Check.gives("the only one that it rents", 2, () -> x.dot(9, 2));
        Check.gives("rented", 7, () -> x.whole(15));
    }

    // ---- promise 7

    private static void rangeOfLines() {
        Check.sentence("Throws `IllegalArgumentException` if lines is out of range");
        int[] wrong = {0, 21, -1, MIN, MAX};
        for (int lines : wrong) {
            Twins.refuse("cool(" + lines + ")", Check.ARGUMENT, Scene::busy, x -> x.cool(lines));
        }
        Check.sentence("`lines`: 1 to 20");
        WornDots x = Scene.hotDot(90);
        long before = x.whole(16);
        x.set(0, 1);
        Check.gives("cool(1)", 89, () -> x.cool(1));
        Check.gives("lines", before + 1, () -> x.whole(16));
        Check.gives("cool(20)", 69, () -> x.cool(20));
        Check.gives("lines", before + 21, () -> x.whole(16));
        Twins.undo("cool(1)", y -> y.cool(1));
        Twins.undo("cool(20)", y -> y.cool(20));
    }

    private static void allDotsCool() {
        Check.sentence("Then the heat of each dot of the head falls by the cooling, but not below 0.");
        int[][] heatCoolingLinesDue = {{8, 8, 1, 0}, {7, 8, 1, 0}, {9, 8, 1, 1}, {1, 30, 20, 0}, {90, 0, 20, 90},
            {90, 30, 2, 30}, {90, 30, 3, 0}, {90, 29, 3, 3}, {20, 1, 20, 0}, {21, 1, 20, 1}, {19, 1, 20, 0},
            {0, 30, 1, 0}, {0, 0, 1, 0}};
        for (int[] a : heatCoolingLinesDue) {
            WornDots x = Scene.hotDot(a[0]);
            Check.gives("heat", a[0], () -> x.dot(0, 0));
            x.set(0, a[1]);
            Check.gives(a[0] + " after " + a[2] + " lines of " + a[1], a[3], () -> x.cool(a[2]));
            Check.gives("heat", a[3], () -> x.dot(0, 0));
            Check.gives("a cold dot", 0, () -> x.dot(1, 0));
        }
    }

    private static void sumOfTheHeats() {
        Check.sentence("Returns the sum of the heats then.");
        Check.gives("none", 0, () -> new WornDots().cool(1));
        WornDots x = new WornDots();
        x.begin(24);
        x.set(0, 0);
        x.addCustomer();
        x.addLabel(12, 9);
        x.setRow(0, 0, 4095);
        x.print(0, 0, 0);
        x.print(0, 0, 12);
        Check.gives("the most", 24 * 90, () -> x.cool(20));
        x.replace(0);
        Check.gives("without the first dot", 23 * 90, () -> x.cool(20));
        x.replace(23);
        x.set(0, 1);
        Check.gives("without the last dot", 22 * 89, () -> x.cool(1));
    }

    // ---- promise 13

    private static void valuesOfADot() {
        Check.sentence("`what`: 0 heat, 1 wear, 2 the customer who rents it (NONE without one), 3 units that it burnt "
            + "(a new dot begins with 0), 4 its fade by its wear");
        WornDots x = Scene.wornDot(9999);
        x.print(0, 0, 0);
        x.set(2, 9979);
        x.set(3, 10);
        x.addCustomer();
        x.rent(1, 0, 2);
        long[] due = {60, 9999, 1, 9999 + 24, 2};
        for (int what = 0; what < 5; what++) {
            int w = what;
            Check.gives("value " + w, due[w], () -> x.dot(0, w));
        }
        long[] none = {0, 0, -1, 0, 0};
        for (int what = 0; what < 5; what++) {
            int w = what;
            Check.gives("value " + w + " of an unused dot", none[w], () -> x.dot(3, w));
        }
        x.replace(0);
        Check.gives("a new dot begins with 0", 0, () -> x.dot(0, 3));
    }

    private static void noSuchDot() {
        Check.sentence("Throws `IndexOutOfBoundsException` if there is no such dot");
        int[] wrong = {-1, 10, 12, 23, 24, MIN, MAX};
        int[] whats = {0, 4, -1, 5, MIN, MAX};
        for (int dot : wrong) {
            for (int what : whats) {
                Check.refuses("dot(" + dot + ", " + what + ")", Check.INDEX, () -> Scene.busy().dot(dot, what));
            }
            Twins.refuse("dot(" + dot + ", 0)", Check.INDEX, Scene::busy, x -> x.dot(dot, 0));
        }
        Check.refuses("dot(24, 0)", Check.INDEX, () -> Scene.full().dot(24, 0));
        Twins.give("dot(9, 0)", 74, Scene::busy, x -> x.dot(9, 0));
        Twins.give("dot(0, 1)", 13, Scene::busy, x -> x.dot(0, 1));
    }

    private static void noSuchDotValue() {
        Check.sentence("Throws `IllegalArgumentException` if what is out of range");
        int[] wrong = {-1, 5, MIN, MAX};
        for (int what : wrong) {
            Twins.refuse("dot(0, " + what + ")", Check.ARGUMENT, Scene::busy, x -> x.dot(0, what));
            Check.refuses("dot(9, " + what + ")", Check.ARGUMENT, () -> Scene.busy().dot(9, what));
        }
    }

    private static void fadeAroundTheWearLimit() {
        Check.sentence("its fade is (wear - wear limit) / fading, or 0 if its wear is not greater than the wear "
            + "limit, by its wear before this line.");
        WornDots x = Scene.wornDot(24);
        x.set(3, 1);
        int[][] limitAndFade = {{22, 2}, {23, 1}, {24, 0}, {25, 0}, {9999, 0}, {0, 24}, {1, 23}};
        for (int[] a : limitAndFade) {
            x.set(2, a[0]);
            Check.gives("24 worn, limit " + a[0], a[1], () -> x.dot(0, 4));
            Check.gives("a dot without wear", 0, () -> x.dot(1, 4));
        }
    }

    private static void fadeIsRoundedDown() {
        Check.sentence("all divided numbers are 0 or more");
        WornDots x = Scene.wornDot(24);
        int[][] limitFadingFade = {{0, 1, 24}, {0, 24, 1}, {0, 25, 0}, {0, 23, 1}, {0, 12, 2}, {1, 12, 1}, {0, 13, 1},
            {4, 10, 2}, {5, 10, 1}, {14, 10, 1}, {15, 10, 0}, {0, 100, 0}, {30, 2, 0}, {100, 1, 0}};
        for (int[] a : limitFadingFade) {
            x.set(2, a[0]);
            x.set(3, a[1]);
            Check.gives("24 worn, limit " + a[0] + ", fading " + a[1], a[2], () -> x.dot(0, 4));
        }
        WornDots most = Scene.wornDot(9999);
        most.set(2, 0);
        most.set(3, 1);
        Check.gives("the most", 9999, () -> most.dot(0, 4));
        most.set(3, 100);
        Check.gives("slowly fading", 99, () -> most.dot(0, 4));
    }

    // ---- promise 23

    private static void mostWornDot() {
        Check.sentence("Returns the dot, of several the lowest one.");
        Check.gives("none is worn", 0, () -> new WornDots().mostWorn());
        int[] sets = {1, 2, 4, 8, 3, 6, 12, 10, 14, 15};
        for (int set : sets) {
            Check.gives("worn are " + set, Integer.numberOfTrailingZeros(set), () -> Scene.wornDots(3, set).mostWorn());
        }
        WornDots most = Scene.wornDots(9999, 15);
        Check.gives("all have the most there is", 0, most::mostWorn);
        most.setRow(1, 0, 8);
        most.print(0, 1, 0);
        Check.gives("though one has burnt more", 0, most::mostWorn);
        WornDots x = Scene.wornDots(3, 15);
        x.setRow(1, 0, 8);
        x.print(0, 1, 0);
        Check.gives("one unit more", 3, x::mostWorn);
        x.setRow(1, 0, 2);
        x.print(0, 1, 0);
        Check.gives("as many", 1, x::mostWorn);
        x.replace(1);
        x.replace(3);
        Check.gives("the others", 0, x::mostWorn);
        x.begin(24);
        Check.gives("a new head", 0, x::mostWorn);
        x.setRow(1, 0, 8);
        x.print(0, 1, 20);
        Check.gives("the last dot of the most", 23, x::mostWorn);
        Twins.give("mostWorn", 0, Scene::busy, WornDots::mostWorn);
    }
}
