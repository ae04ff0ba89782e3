/** Promises 8 to 10 and 16: addCustomer, rent, endRent and customer. */
final class CustomerTest {

    private CustomerTest() {
    }

    public static void main(String[] args) {
        addCustomer();
        rent();
        wrongRents();
        endRent();
        customerValues();
        aPlaceIsUsedAgain();
        Check.end();
    }

    private static void addCustomer() {
        WornDots x = new WornDots();
        for (int i = 0; i < 6; i++) {
            int customer = i;
            Check.gives("addCustomer", i, x::addCustomer);
            Check.gives("customers", i + 1, () -> x.whole(9));
            Check.gives("first dot", -1, () -> x.customer(customer, 0));
            Check.gives("last dot", -1, () -> x.customer(customer, 1));
            for (int what = 2; what < 6; what++) {
                int w = what;
                Check.gives("nothing yet", 0, () -> x.customer(customer, w));
            }
        }
        Check.refusesWithoutTrace(x, "a seventh customer", Check.STATE, x::addCustomer);
        Check.gives("undo of addCustomer", 3, x::undo);
        Check.gives("customers", 5, () -> x.whole(9));
    }

    private static void rent() {
        WornDots x = new WornDots();
        x.addCustomer();
        x.addCustomer();
        Check.gives("rent one dot", 1, () -> x.rent(0, 5, 5));
        Check.gives("rent beside it", 7, () -> x.rent(1, 6, 11));
        Check.gives("rent more, its own dot too", 12, () -> x.rent(0, 0, 5));
        Check.gives("rented", 12, () -> x.whole(15));
        Check.gives("rent less", 7, () -> x.rent(0, 3, 3));
        Check.gives("first dot", 3, () -> x.customer(0, 0));
        Check.gives("last dot", 3, () -> x.customer(0, 1));
        Check.gives("the dot is free", -1, () -> x.dot(5, 2));
        Check.gives("undo of rent", 3, x::undo);
        Check.gives("the dot is rented", 0, () -> x.dot(5, 2));
    }

    private static void wrongRents() {
        WornDots x = new WornDots();
        x.addCustomer();
        x.addCustomer();
        x.rent(0, 4, 6);
        int max = Integer.MAX_VALUE;
        int min = Integer.MIN_VALUE;
        int[][] noSuch = {{2, 0, 0}, {-1, 0, 0}, {1, 12, 12}, {1, 0, 12}, {1, -1, 3}, {1, 12, 0}, {1, 3, -1},
            {max, 0, 0}, {min, 0, 0}, {1, max, max}, {1, min, min}, {1, 0, max}, {2, 5, 4}};
        for (int[] a : noSuch) {
            Check.refusesWithoutTrace(x, "rent(" + a[0] + ", " + a[1] + ", " + a[2] + ")", Check.INDEX,
                () -> x.rent(a[0], a[1], a[2]));
        }
        Check.refusesWithoutTrace(x, "to less than from", Check.ARGUMENT, () -> x.rent(1, 3, 2));
        Check.refuses("to less than from, first of two", Check.ARGUMENT, () -> x.rent(1, 6, 4));
        int[][] taken = {{1, 4, 4}, {1, 6, 6}, {1, 5, 5}, {1, 0, 4}, {1, 6, 11}, {1, 0, 11}, {1, 5, 6}};
        for (int[] a : taken) {
            Check.refusesWithoutTrace(x, "rent(" + a[0] + ", " + a[1] + ", " + a[2] + ")", Check.STATE,
                () -> x.rent(a[0], a[1], a[2]));
        }
        Check.gives("rent up to it", 7, () -> x.rent(1, 0, 3));
        Check.gives("rent behind it", 8, () -> x.rent(1, 7, 11));
    }

    private static void endRent() {
        WornDots x = new WornDots();
        Check.refuses("no customer", Check.INDEX, () -> x.endRent(0));
        x.addCustomer();
        Check.refusesWithoutTrace(x, "rents nothing", Check.STATE, () -> x.endRent(0));
        x.rent(0, 0, 11);
        Check.gives("endRent", 12, () -> x.endRent(0));
        Check.gives("rented", 0, () -> x.whole(15));
        Check.gives("first dot", -1, () -> x.customer(0, 0));
        Check.gives("last dot", -1, () -> x.customer(0, 1));
        Check.refuses("rents nothing any more", Check.STATE, () -> x.endRent(0));
        Check.gives("undo of endRent", 2, x::undo);
        Check.gives("rented", 12, () -> x.whole(15));
        Check.refuses("no such customer", Check.INDEX, () -> x.endRent(1));
        Check.refuses("no such customer", Check.INDEX, () -> x.endRent(-1));
        Check.refuses("no such customer", Check.INDEX, () -> x.endRent(Integer.MAX_VALUE));
        x.rent(0, 2, 2);
        Check.gives("endRent of one dot", 1, () -> x.endRent(0));
    }

    private static void customerValues() {
        WornDots x = HeadTest.withLabel(2, 3);
        x.addCustomer();
        x.rent(1, 2, 4);
        x.print(1, 0, 2);
        x.print(1, 0, 2);
        x.set(2, 0);
        x.set(3, 1);
        x.set(4, 0);
        x.set(5, 0);
        x.print(1, 0, 2);
        Check.gives("first dot", 2, () -> x.customer(1, 0));
        Check.gives("last dot", 4, () -> x.customer(1, 1));
        Check.gives("paid", 30 + 29 + 29, () -> x.customer(1, 2));
        Check.gives("paid back", 29, () -> x.customer(1, 3));
        Check.gives("labels", 3, () -> x.customer(1, 4));
        Check.gives("not read", 1, () -> x.customer(1, 5));
        Check.gives("the other one paid", 0, () -> x.customer(0, 2));
        Check.gives("the other one's labels", 0, () -> x.customer(0, 4));
        Check.gives("paid minus paid back", 59, () -> x.whole(14));
        Check.refuses("what too high", Check.ARGUMENT, () -> x.customer(1, 6));
        Check.refuses("what too low", Check.ARGUMENT, () -> x.customer(1, -1));
        Check.refuses("no such customer", Check.INDEX, () -> x.customer(2, 0));
        Check.refuses("no such customer, first of two", Check.INDEX, () -> x.customer(-1, 6));
    }

    private static void aPlaceIsUsedAgain() {
        WornDots x = new WornDots();
        x.addLabel(1, 1);
        x.setRow(0, 0, 1);
        Text.run(x, "client;rent 0 0 3;print 0 0 0;");
        Check.gives("paid", 5, () -> x.customer(0, 2));
        x.undo();
        Check.gives("customers", 0, () -> x.whole(9));
        x.addCustomer();
        Check.gives("rents nothing", -1, () -> x.customer(0, 0));
        Check.gives("paid nothing", 0, () -> x.customer(0, 2));
        Check.gives("nothing printed", 0, () -> x.customer(0, 4));
        Check.gives("rented", 0, () -> x.whole(15));
    }
}
