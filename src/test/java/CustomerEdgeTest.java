/** The boundary cases of customers: promises 8 to 10 and 16, and what the terms say of the parts that they rent. */
final class CustomerEdgeTest {

    private static final int MIN = Integer.MIN_VALUE;
    private static final int MAX = Integer.MAX_VALUE;

    private CustomerEdgeTest() {
    }

    public static void main(String[] args) {
        mostCustomers();
        aNewCustomer();
        numberOfTheCustomer();
        sixCustomers();
        undoOfAddCustomer();
        partsOfTheHead();
        partsWithoutACommonDot();
        inPlaceOfWhatItRented();
        dotsRentedByAll();
        noSuchCustomerOrDot();
        toLessThanFrom();
        rentedByAnother();
        undoOfRent();
        dotsThatItRented();
        noSuchCustomerToEnd();
        rentsNothing();
        undoOfEndRent();
        noSuchCustomer();
        noSuchCustomerValue();
        firstAndLastDot();
        moneyAndLabels();
        Check.end();
    }

    // ---- promise 8

    private static void mostCustomers() {
        Check.sentence("There are at most 6 customers, numbered from 0.");
        WornDots x = new WornDots();
        for (int i = 0; i < 6; i++) {
            int n = i;
            Check.refuses("customer " + n, Check.INDEX, () -> x.customer(n, 2));
            Check.gives("addCustomer", n, x::addCustomer);
            Check.gives("customer " + n, 0, () -> x.customer(n, 2));
            Check.gives("customers", n + 1, () -> x.whole(9));
        }
        Check.refuses("a seventh one", Check.STATE, x::addCustomer);
        Check.refuses("customer 6", Check.INDEX, () -> x.customer(6, 2));
        Check.refuses("customer -1", Check.INDEX, () -> x.customer(-1, 2));
    }

    private static void aNewCustomer() {
        Check.sentence("Adds a customer, who rents nothing.");
        WornDots x = Scene.busy();
        x.addCustomer();
        long[] due = {-1, -1, 0, 0, 0, 0};
        for (int what = 0; what < 6; what++) {
            int w = what;
            Check.gives("value " + w, due[w], () -> x.customer(3, w));
        }
        Check.gives("rented", 6, () -> x.whole(15));
        Check.refuses("endRent", Check.STATE, () -> x.endRent(3));
    }

    private static void numberOfTheCustomer() {
        Check.sentence("Returns the number of the customer.");
        Check.gives("the first one", 0, () -> new WornDots().addCustomer());
        Check.gives("the fourth one", 3, () -> Scene.busy().addCustomer());
        WornDots x = Scene.busy();
        x.addCustomer();
        x.rent(3, 9, 9);
        x.undo();
        x.undo();
        Check.gives("one that was added and undone", 3, x::addCustomer);
        Check.gives("it rents nothing", -1, () -> x.customer(3, 0));
    }

    private static void sixCustomers() {
        Check.sentence("Throws `IllegalStateException` if there are 6 customers");
        Twins.refuse("addCustomer()", Check.STATE, Scene::full, WornDots::addCustomer);
    }

    private static void undoOfAddCustomer() {
        Check.sentence("Adds a customer, who rents nothing. Undoable.");
        Twins.undo("addCustomer()", WornDots::addCustomer);
        WornDots x = new WornDots();
        for (int i = 0; i < 6; i++) {
            x.addCustomer();
        }
        x.undo();
        Check.gives("the sixth one once more", 5, x::addCustomer);
    }

    // ---- promise 9

    private static void partsOfTheHead() {
        Check.sentence("A customer rents a part of the head, from one dot to another one, or nothing.");
        int[][] fromAndTo = {{0, 0}, {11, 11}, {0, 11}, {5, 5}, {5, 6}, {0, 1}, {10, 11}};
        for (int[] a : fromAndTo) {
            WornDots x = new WornDots();
            x.addCustomer();
            Check.gives("rent(0, " + a[0] + ", " + a[1] + ")", a[1] - a[0] + 1, () -> x.rent(0, a[0], a[1]));
            Check.gives("first dot", a[0], () -> x.customer(0, 0));
            Check.gives("last dot", a[1], () -> x.customer(0, 1));
            for (int dot = 0; dot < 12; dot++) {
                int d = dot;
                Check.gives("renter of " + d, d >= a[0] && d <= a[1] ? 0 : -1, () -> x.dot(d, 2));
            }
        }
    }

    private static void partsWithoutACommonDot() {
        Check.sentence("The parts of different customers have no dot in common.");
        WornDots x = new WornDots();
        x.addCustomer();
        x.addCustomer();
        x.addCustomer();
        x.rent(0, 4, 7);
        Check.refuses("the dot before and its first one", Check.STATE, () -> x.rent(1, 3, 4));
        Check.refuses("its last dot and the one behind", Check.STATE, () -> x.rent(1, 7, 8));
        Check.gives("up to it", 8, () -> x.rent(1, 0, 3));
        Check.gives("from behind it on", 12, () -> x.rent(2, 8, 11));
        for (int dot = 0; dot < 12; dot++) {
            int d = dot;
            Check.gives("renter of " + d, d < 4 ? 1 : d < 8 ? 0 : 2, () -> x.dot(d, 2));
        }
    }

    private static void inPlaceOfWhatItRented() {
        Check.sentence("Lets a customer rent a part of the head, in place of what it rented.");
        WornDots x = new WornDots();
        x.addCustomer();
        int[][] fromToRented = {{3, 8, 6}, {3, 8, 6}, {4, 7, 4}, {7, 9, 3}, {0, 11, 12}, {0, 0, 1}, {11, 11, 1}};
        for (int[] a : fromToRented) {
            Check.gives("rent(0, " + a[0] + ", " + a[1] + ")", a[2], () -> x.rent(0, a[0], a[1]));
            Check.gives("first dot", a[0], () -> x.customer(0, 0));
            Check.gives("last dot", a[1], () -> x.customer(0, 1));
            Check.gives("rented", a[2], () -> x.whole(15));
        }
        x.addCustomer();
        Check.gives("what it rented is free for others", 12, () -> x.rent(1, 0, 10));
    }

    private static void dotsRentedByAll() {
        Check.sentence("Returns the number of dots that are rented then, by all customers.");
        WornDots x = new WornDots();
        x.begin(24);
        for (int i = 0; i < 6; i++) {
            x.addCustomer();
        }
        for (int i = 0; i < 6; i++) {
            int k = i;
            Check.gives("rent by " + k, 4 * (k + 1), () -> x.rent(k, 4 * k, 4 * k + 3));
        }
        Check.gives("rented", 24, () -> x.whole(15));
        Check.gives("fewer", 21, () -> x.rent(5, 23, 23));
    }

    private static void noSuchCustomerOrDot() {
        Check.sentence("Throws `IndexOutOfBoundsException` if there is no such customer or dot");
        int[][] wrong = {{-1, 6, 7}, {3, 6, 7}, {6, 6, 7}, {MIN, 6, 7}, {MAX, 6, 7}, {2, -1, 7}, {2, 10, 10},
            {2, 6, 10}, {2, 24, 24}, {2, MIN, 7}, {2, MAX, MAX}, {2, 6, MAX}, {2, 6, -1}, {2, 6, MIN}, {2, -1, -1},
            {2, 10, 6}, {2, MAX, MIN}, {3, 7, 6}, {3, 0, 1}, {2, 4, 10}, {2, -1, 0}, {-1, -1, -1}};
        for (int[] a : wrong) {
            Twins.refuse("rent(" + a[0] + ", " + a[1] + ", " + a[2] + ")", Check.INDEX, Scene::busy,
                x -> x.rent(a[0], a[1], a[2]));
        }
        Check.gives("the last customer, the last dot", 7, () -> Scene.busy().rent(2, 9, 9));
        Check.refuses("a seventh customer", Check.INDEX, () -> Scene.full().rent(6, 0, 0));
        Check.refuses("rent without customers", Check.INDEX, () -> new WornDots().rent(0, 0, 0));
    }

    private static void toLessThanFrom() {
        Check.sentence("Throws `IllegalArgumentException` if to is less than from");
        int[][] wrong = {{2, 7, 6}, {2, 9, 0}, {2, 1, 0}, {0, 3, 2}, {2, 5, 4}, {1, 3, 0}, {0, 9, 3}};
        for (int[] a : wrong) {
            Twins.refuse("rent(" + a[0] + ", " + a[1] + ", " + a[2] + ")", Check.ARGUMENT, Scene::busy,
                x -> x.rent(a[0], a[1], a[2]));
        }
        Check.sentence("`to`: number of a dot, from or more");
        Check.gives("to as much as from", 7, () -> Scene.busy().rent(2, 6, 6));
        Check.gives("to one more", 8, () -> Scene.busy().rent(2, 6, 7));
    }

    private static void rentedByAnother() {
        Check.sentence("Throws `IllegalStateException` if one of the dots is rented by another customer");
        int[][] wrong = {{2, 3, 3}, {2, 0, 0}, {2, 5, 6}, {2, 5, 9}, {2, 0, 9}, {0, 0, 4}, {0, 4, 4}, {1, 3, 5},
            {1, 0, 9}, {0, 3, 9}};
        for (int[] a : wrong) {
            Twins.refuse("rent(" + a[0] + ", " + a[1] + ", " + a[2] + ")", Check.STATE, Scene::busy,
                x -> x.rent(a[0], a[1], a[2]));
        }
        Check.gives("behind them", 10, () -> Scene.busy().rent(2, 6, 9));
        Check.gives("its own dots", 6, () -> Scene.busy().rent(0, 0, 3));
        Check.gives("its own dots and free ones", 10, () -> Scene.busy().rent(1, 4, 9));
    }

    private static void undoOfRent() {
        Check.sentence("Lets a customer rent a part of the head, in place of what it rented. Undoable.");
        Twins.undo("rent(2, 6, 9)", x -> x.rent(2, 6, 9));
        Twins.undo("rent(0, 1, 1)", x -> x.rent(0, 1, 1));
        Twins.undo("rent of the same", x -> x.rent(0, 0, 3));
    }

    // ---- promise 10

    private static void dotsThatItRented() {
        Check.sentence("Returns the number of dots that it rented.");
        int[][] fromAndTo = {{0, 0}, {23, 23}, {0, 23}, {7, 8}};
        for (int[] a : fromAndTo) {
            WornDots x = new WornDots();
            x.begin(24);
            x.addCustomer();
            x.rent(0, a[0], a[1]);
            Check.gives("endRent", a[1] - a[0] + 1, () -> x.endRent(0));
            Check.gives("first dot", -1, () -> x.customer(0, 0));
            Check.gives("last dot", -1, () -> x.customer(0, 1));
            Check.gives("rented", 0, () -> x.whole(15));
            Check.gives("renter", -1, () -> x.dot(a[0], 2));
        }
        WornDots x = Scene.busy();
        Check.gives("one of two", 2, () -> x.endRent(1));
        Check.gives("the other one stays", 4, () -> x.whole(15));
        Check.gives("its dots are free", 10, () -> x.rent(2, 4, 9));
    }

    private static void noSuchCustomerToEnd() {
        Check.sentence("Throws `IndexOutOfBoundsException` if there is no such customer");
        int[] wrong = {-1, 3, 5, 6, MIN, MAX};
        for (int customer : wrong) {
            Twins.refuse("endRent(" + customer + ")", Check.INDEX, Scene::busy, x -> x.endRent(customer));
        }
        Twins.refuse("endRent(6)", Check.INDEX, Scene::full, x -> x.endRent(6));
        Check.gives("endRent(5)", 4, () -> Scene.full().endRent(5));
        Check.refuses("endRent without customers", Check.INDEX, () -> new WornDots().endRent(0));
    }

    private static void rentsNothing() {
        Check.sentence("Throws `IllegalStateException` if it rents nothing");
        Twins.refuse("endRent(2)", Check.STATE, Scene::busy, x -> x.endRent(2));
        WornDots x = Scene.busy();
        x.endRent(0);
        Check.refusesWithoutTrace(x, "it has ended already", Check.STATE, () -> x.endRent(0));
        x.begin(10);
        Check.refusesWithoutTrace(x, "with the head before", Check.STATE, () -> x.endRent(1));
    }

    private static void undoOfEndRent() {
        Check.sentence("Ends what a customer rents. Undoable.");
        Twins.undo("endRent(0)", x -> x.endRent(0));
        Twins.undo("endRent(1)", x -> x.endRent(1));
    }

    // ---- promise 16

    private static void noSuchCustomer() {
        Check.sentence("Throws `IndexOutOfBoundsException` if there is no such customer");
        int[] wrong = {-1, 3, 5, 6, MIN, MAX};
        int[] whats = {0, 5, -1, 6, MIN, MAX};
        for (int customer : wrong) {
            for (int what : whats) {
                Check.refuses("customer(" + customer + ", " + what + ")", Check.INDEX,
                    () -> Scene.busy().customer(customer, what));
            }
            Twins.refuse("customer(" + customer + ", 0)", Check.INDEX, Scene::busy, x -> x.customer(customer, 0));
        }
        Check.refuses("customer(6, 0)", Check.INDEX, () -> Scene.full().customer(6, 0));
        Check.refuses("customer without customers", Check.INDEX, () -> new WornDots().customer(0, 0));
    }

    private static void noSuchCustomerValue() {
        Check.sentence("Throws `IllegalArgumentException` if what is out of range");
        int[] wrong = {-1, 6, MIN, MAX};
        for (int what : wrong) {
            Twins.refuse("customer(0, " + what + ")", Check.ARGUMENT, Scene::busy, x -> x.customer(0, what));
        }
        long[][] due = {{0, 3, 225, 225, 1, 1}, {4, 5, 0, 0, 0, 0}, {-1, -1, 225, 0, 1, 0}};
        for (int customer = 0; customer < 3; customer++) {
            for (int what = 0; what < 6; what++) {
                int k = customer;
                int w = what;
                Twins.give("customer(" + k + ", " + w + ")", due[k][w], Scene::busy, x -> x.customer(k, w));
            }
        }
    }

    private static void firstAndLastDot() {
        Check.sentence("`what`: 0 first dot that it rents, 1 last one (both NONE if it rents nothing), 2 what it paid, "
            + "3 what it was paid back, 4 labels printed for it, 5 of these those that could not be read");
        WornDots x = new WornDots();
        x.begin(24);
        x.addCustomer();
        Check.gives("first of nothing", -1, () -> x.customer(0, 0));
        Check.gives("last of nothing", -1, () -> x.customer(0, 1));
        x.rent(0, 23, 23);
        Check.gives("first", 23, () -> x.customer(0, 0));
        Check.gives("last", 23, () -> x.customer(0, 1));
        x.rent(0, 0, 0);
        Check.gives("first", 0, () -> x.customer(0, 0));
        Check.gives("last", 0, () -> x.customer(0, 1));
        x.rent(0, 0, 23);
        Check.gives("first", 0, () -> x.customer(0, 0));
        Check.gives("last", 23, () -> x.customer(0, 1));
        x.endRent(0);
        Check.gives("first of nothing any more", -1, () -> x.customer(0, 0));
        Check.gives("last of nothing any more", -1, () -> x.customer(0, 1));
    }

    private static void moneyAndLabels() {
        Check.sentence("When a label is printed for a customer, the customer pays the price; if it cannot be read, the "
            + "customer is paid back that price.");
        WornDots x = Scene.oneCell(9, 0);
        x.addCustomer();
        // With a cooling of 0 the 5 white cells below the black one are smeared.
        x.set(0, 0);
        x.set(5, 5);
        x.print(1, 0, 0);
        Check.gives("paid", 45, () -> x.customer(1, 2));
        Check.gives("paid back", 0, () -> x.customer(1, 3));
        Check.gives("labels", 1, () -> x.customer(1, 4));
        Check.gives("not read", 0, () -> x.customer(1, 5));
        x.set(5, 4);
        x.set(6, 100);
        x.print(1, 0, 1);
        Check.gives("paid", 945, () -> x.customer(1, 2));
        Check.gives("paid back", 900, () -> x.customer(1, 3));
        Check.gives("labels", 2, () -> x.customer(1, 4));
        Check.gives("not read", 1, () -> x.customer(1, 5));
        for (int what = 2; what < 6; what++) {
            int w = what;
            Check.gives("the other customer", 0, () -> x.customer(0, w));
        }
        Check.gives("paid minus paid back", 45, () -> x.whole(14));
    }
}
