import java.math.BigInteger;
import java.util.ArrayList;
import java.util.List;

/** The boundary cases of undo and digest: promises 27 and 28, and what the terms say of saved states and exceptions. */
final class UndoEdgeTest {

    private static final BigInteger HASH_START = BigInteger.valueOf(43448);

    private UndoEdgeTest() {
    }

    public static void main(String[] args) {
        emptyStack();
        latestFourStates();
        statesThatAreLeft();
        stateFromBeforeTheCall();
        theWholeState();
        alsoIfItChangesNothing();
        endsNormally();
        newStatesAfterAnUndo();
        undoIsNotUndoable();
        theCommandTextStays();
        onlyMarkedMethodsSave();
        refusedCallsChangeNothing();
        the512thCall();
        mostThatIsPaid();
        noneIsMinusOne();
        hashOfANewObject();
        hashWrapsAround();
        hashOfEveryValue();
        digestChangesNothing();
        Check.end();
    }

    // ---- promise 27

    private static void emptyStack() {
        Check.sentence("Throws `IllegalStateException` if the stack is empty");
        Twins.refuse("undo of nothing", Check.STATE, WornDots::new, WornDots::undo);
        Twins.refuse("undo of a text", Check.STATE, () -> {
            WornDots x = new WornDots();
            Text.put(x, "client;cool 1;");
            return x;
        }, WornDots::undo);
        Twins.refuse("undo of all, and one more", Check.STATE, () -> {
            WornDots x = Scene.busy();
            for (int i = 0; i < 4; i++) {
                x.undo();
            }
            return x;
        }, WornDots::undo);
        WornDots x = new WornDots();
        x.cool(1);
        Check.gives("the only one", 0, x::undo);
        Check.refuses("none any more", Check.STATE, x::undo);
    }

    private static void latestFourStates() {
        Check.sentence("The stack keeps the latest 4 saved states and drops older ones.");
        for (int calls = 0; calls < 10; calls++) {
            WornDots x = new WornDots();
            for (int i = 0; i < calls; i++) {
                x.cool(1);
            }
            int kept = Math.min(calls, 4);
            for (int i = 1; i <= kept; i++) {
                int left = kept - i;
                Check.gives("undo " + i + " of " + calls, left, x::undo);
                Check.gives("lines", calls - i, () -> x.whole(16));
            }
            Check.refuses("undo of a state that was dropped", Check.STATE, x::undo);
            Check.gives("lines", calls - kept, () -> x.whole(16));
        }
    }

    private static void statesThatAreLeft() {
        Check.sentence("Returns the number of states that are left on the stack.");
        WornDots x = Scene.busy();
        for (int left = 3; left >= 0; left--) {
            Check.gives("undo", left, x::undo);
        }
    }

    private static void stateFromBeforeTheCall() {
        Check.sentence("The saved state is the one from before the call.");
        for (int before = 2; before < 6; before++) {
            int count = before;
            WornDots x = afterCalls(6);
            for (int i = 6; i > count; i--) {
                x.undo();
            }
            Check.gives("state before call " + count, hashByHand(afterCalls(count), 0), () -> hashByHand(x, 0));
        }
    }

    private static WornDots afterCalls(int count) {
        WornDots x = new WornDots();
        Check.Call[] calls = {() -> x.addLabel(2, 9), () -> x.setRow(0, 0, 3), x::addCustomer, () -> x.rent(0, 0, 4),
            () -> x.print(0, 0, 1), () -> x.begin(24)};
        for (int i = 0; i < count; i++) {
            calls[i].answer();
        }
        return x;
    }

    private static void theWholeState() {
        Check.sentence("saves the whole state but the command text on an undo stack");
        Twins.Use[] calls = {x -> x.begin(4), x -> x.begin(24), x -> x.set(0, 30), x -> x.setRow(5, 5, 0),
            x -> x.setRow(0, 0, 1), x -> x.replace(23), x -> x.replace(0), x -> x.cool(20), x -> x.endRent(5),
            x -> x.endRent(0), x -> x.rent(5, 22, 23), x -> x.print(5, 5, 23), x -> x.print(0, 5, 0),
            x -> x.printBest(5, 4), WornDots::runCommands};
        for (int i = 0; i < calls.length; i++) {
            WornDots x = fullAndPrinted();
            calls[i].on(x);
            Check.gives("undo of call " + i, 3, x::undo);
            Twins.alike("call " + i + ", undone", UndoEdgeTest::fullAndPrinted, x);
        }
    }

    /** A full printer whose first and last dots, customers and labels are used; with three states. */
    private static WornDots fullAndPrinted() {
        WornDots x = Scene.full();
        x.print(0, 4, 0);
        x.print(5, 5, 23);
        x.print(5, 4, 20);
        x.undo();
        return x;
    }

    private static void alsoIfItChangesNothing() {
        Check.sentence("also if it changes nothing.");
        WornDots x = new WornDots();
        Check.Call[] calls = {() -> x.begin(12), () -> x.set(0, 8), () -> x.replace(11), x::runCommands};
        for (Check.Call call : calls) {
            call.answer();
            Check.gives("undo", 0, x::undo);
        }
        x.addLabel(1, 1);
        x.addCustomer();
        x.rent(0, 2, 3);
        x.setRow(0, 0, 0);
        Check.gives("undo of a row that stays", 3, x::undo);
        x.rent(0, 2, 3);
        Check.gives("undo of a part that stays", 3, x::undo);
        Check.gives("undo of the part", 2, x::undo);
        Check.gives("rented", 0, () -> x.whole(15));
    }

    private static void endsNormally() {
        Check.sentence("saves the whole state but the command text on an undo stack when it ends normally");
        WornDots x = new WornDots();
        x.cool(1);
        x.cool(2);
        Check.Call[] refused = {() -> x.begin(3), () -> x.set(0, 31), () -> x.addLabel(0, 1), () -> x.setRow(0, 0, 0),
            () -> x.replace(12), () -> x.cool(21), () -> x.rent(0, 0, 0), () -> x.endRent(0), () -> x.print(0, 0, 0),
            () -> x.printBest(0, 0)};
        for (Check.Call call : refused) {
            Check.outcome(call);
        }
        Text.run(x, "cool 1;x");
        Check.gives("undo", 1, x::undo);
        Check.gives("lines", 1, () -> x.whole(16));
    }

    private static void newStatesAfterAnUndo() {
        Check.sentence("Restores the latest saved state and removes it from the undo stack.");
        WornDots x = new WornDots();
        for (int i = 0; i < 6; i++) {
            x.cool(1);
        }
        x.undo();
        x.undo();
        Check.gives("lines", 4, () -> x.whole(16));
        x.cool(10);
        x.cool(20);
        Check.gives("lines", 34, () -> x.whole(16));
        long[] lines = {14, 4, 3, 2};
        for (int i = 0; i < 4; i++) {
            int left = 3 - i;
            Check.gives("undo", left, x::undo);
            Check.gives("lines", lines[i], () -> x.whole(16));
        }
        Check.refuses("undo", Check.STATE, x::undo);
    }

    private static void undoIsNotUndoable() {
        Check.sentence("Restores the latest saved state and removes it from the undo stack.");
        WornDots x = new WornDots();
        x.addCustomer();
        x.addCustomer();
        Check.gives("undo", 1, x::undo);
        Check.gives("undo goes further back", 0, x::undo);
        Check.gives("customers", 0, () -> x.whole(9));
    }

    private static void theCommandTextStays() {
        Check.sentence("saves the whole state but the command text on an undo stack");
        WornDots x = new WornDots();
        x.cool(1);
        Text.put(x, "client;");
        x.cool(1);
        x.clearCommands();
        Text.put(x, "cool 7;cool 8;");
        x.cool(1);
        for (int i = 0; i < 3; i++) {
            x.undo();
            Check.gives("length", 14, () -> x.whole(17));
        }
        Check.gives("run", 2, x::runCommands);
        Check.gives("lines", 15, () -> x.whole(16));
    }

    private static void onlyMarkedMethodsSave() {
        Check.sentence("Every method that is marked \"undoable\" saves the whole state");
        Twins.Use[] unmarked = {x -> x.dot(0, 0), x -> x.label(0, 0), x -> x.row(0, 0), x -> x.customer(0, 0),
            x -> x.whole(0), x -> x.reason(0, 0, 0), x -> x.price(0, 0, 0), x -> x.unreadable(0, 0, 0),
            x -> x.bestOffset(0, 0), x -> x.readableFor(0, 0, 0), WornDots::mostWorn, x -> x.type(32),
            WornDots::clearCommands, WornDots::digest};
        for (int i = 0; i < unmarked.length; i++) {
            WornDots x = Scene.busyWithThreeStates();
            unmarked[i].on(x);
            Check.gives("undo after call " + i, 2, x::undo);
        }
        Twins.Use[] marked = {x -> x.begin(9), x -> x.set(0, 0), x -> x.addLabel(1, 1), x -> x.setRow(0, 0, 0),
            x -> x.replace(0), x -> x.cool(1), WornDots::addCustomer, x -> x.rent(2, 9, 9), x -> x.endRent(0),
            x -> x.print(0, 0, 0), x -> x.printBest(0, 0), WornDots::runCommands};
        for (int i = 0; i < marked.length; i++) {
            Twins.undo("marked call " + i, marked[i]);
        }
    }

    private static void refusedCallsChangeNothing() {
        Check.sentence("A call that throws an exception changes nothing.");
        Twins.Use[] refused = {x -> x.begin(3), x -> x.set(7, 0), x -> x.addLabel(13, 1), x -> x.setRow(3, 0, 0),
            x -> x.replace(10), x -> x.cool(21), x -> x.rent(2, 3, 6), x -> x.endRent(2), x -> x.print(2, 0, 3),
            x -> x.printBest(0, 2), x -> x.dot(10, 0), x -> x.label(3, 0), x -> x.row(0, 6), x -> x.customer(3, 0),
            x -> x.whole(18), x -> x.reason(0, 0, 24), x -> x.price(3, 0, 0), x -> x.unreadable(0, 3, 0),
            x -> x.bestOffset(0, 3), x -> x.readableFor(0, 0, -1), x -> x.type(128)};
        WornDots x = Scene.busy();
        for (int i = 0; i < refused.length; i++) {
            Twins.Use call = refused[i];
            String outcome = Check.outcome(() -> call.on(x));
            Check.compare("call " + i + " is refused", "true", Boolean.toString(outcome.startsWith("java.lang.I")));
        }
        Twins.alike("all that is refused", Scene::busy, x);
    }

    private static void the512thCall() {
        Check.sentence("An object is used for at most 512 calls after it has been made");
        WornDots x = new WornDots();
        for (int i = 0; i < 507; i++) {
            x.cool(20);
        }
        Check.gives("call 508", 10140, () -> x.whole(16));
        for (int left = 3; left >= 0; left--) {
            Check.gives("call " + (512 - left), left, x::undo);
        }
        WornDots y = new WornDots();
        y.cool(1);
        for (int i = 0; i < 510; i++) {
            y.digest();
        }
        Check.gives("call 512", 0, y::undo);
    }

    private static void mostThatIsPaid() {
        Check.sentence("An object is used for at most 512 calls after it has been made");
        WornDots x = new WornDots();
        x.addCustomer();
        x.addLabel(12, 9);
        for (int row = 0; row < 6; row++) {
            x.setRow(0, row, 4095);
        }
        x.set(0, 30);
        x.set(6, 100);
        x.set(2, 9999);
        Text.put(x, "best 0 0;".repeat(16));
        for (int i = 0; i < 345; i++) {
            x.runCommands();
        }
        int labels = 345 * 16;
        Check.gives("paid", 64800L * labels, () -> x.customer(0, 2));
        Check.gives("paid minus paid back", 64800L * labels, () -> x.whole(14));
        Check.gives("units burnt", 12L * (24 + 18 * (labels - 1)), () -> x.whole(11));
        Check.gives("of a dot", 24 + 18L * (labels - 1), () -> x.dot(11, 3));
        Check.gives("lines", 6L * labels, () -> x.whole(16));
        Check.gives("labels", labels, () -> x.label(0, 3));
        Check.gives("sum of the wears", 12 * 9999, () -> x.whole(10));
    }

    // ---- the constant, and promise 28

    private static void noneIsMinusOne() {
        Check.sentence("`NONE = -1`: Returned where there is no such value.");
        Check.gives("NONE", -1, () -> WornDots.NONE);
        WornDots x = Scene.busy();
        Check.gives("renter", WornDots.NONE, () -> x.dot(9, 2));
        Check.gives("first dot", WornDots.NONE, () -> x.customer(2, 0));
        Check.gives("last dot", WornDots.NONE, () -> x.customer(2, 1));
        Check.gives("price", WornDots.NONE, () -> x.price(0, 0, 2));
        Check.gives("unreadable", WornDots.NONE, () -> x.unreadable(0, 0, 2));
        Check.gives("readableFor", WornDots.NONE, () -> x.readableFor(0, 0, 2));
        Check.gives("bestOffset", WornDots.NONE, () -> x.bestOffset(0, 1));
    }

    private static void hashOfANewObject() {
        Check.sentence("It starts with h = 43448.");
        List<Long> values = new ArrayList<>();
        long[] whole = {0, 12, 8, 60, 100, 20, 1, 2, 5, 0, 0, 0, 0, 0, 0, 0, 0, 0, 0};
        for (long v : whole) {
            values.add(v);
        }
        for (int dot = 0; dot < 12; dot++) {
            values.addAll(List.of(0L, 0L, -1L, 0L, 0L));
        }
        values.add(0L);
        Check.gives("digest", hashOf(values).longValue(), () -> new WornDots().digest());
    }

    private static void hashWrapsAround() {
        Check.sentence("h becomes 31 * h + v (long arithmetic, overflow wraps).");
        BigInteger exact = hashOf(valuesOf(new WornDots(), 0));
        Check.compare("it is longer than a long", "true", Boolean.toString(exact.bitLength() > 64));
        boolean below = false;
        boolean above = false;
        for (int lines = 1; lines < 21; lines++) {
            WornDots x = new WornDots();
            x.cool(lines);
            long digest = x.digest();
            Check.gives("digest after " + lines + " lines", hashByHand(x, 1), () -> digest);
            below |= digest < 0;
            above |= digest > 0;
        }
        Check.compare("digests below 0 and above it", "true", Boolean.toString(below && above));
    }

    private static void hashOfEveryValue() {
        Check.sentence("the number of states on the undo stack; whole() of 0 to 17; for each dot dot() of 0 to 4; for "
            + "each label in turn label() of 0 to 5 and row() of 0 to 5; for each customer in turn customer() of 0 to "
            + "5, and bestOffset() of each label; mostWorn().");
        WornDots[] printers = {new WornDots(), Scene.busy(), Scene.busyWithThreeStates(), Scene.full(),
            Scene.wornDots(9999, 15), Scene.hotDot(90)};
        int[] states = {0, 4, 3, 4, 4, 4};
        for (int i = 0; i < printers.length; i++) {
            WornDots x = printers[i];
            Check.gives("digest of printer " + i, hashByHand(x, states[i]), x::digest);
        }
        for (int left = 3; left >= 0; left--) {
            WornDots x = Scene.busy();
            for (int i = 4; i > left; i--) {
                x.undo();
            }
            Check.gives("digest with " + left + " states", hashByHand(x, left), x::digest);
        }
    }

    private static void digestChangesNothing() {
        Check.sentence("Returns a hash of the state.");
        Twins.give("digest", Scene.busy().digest(), Scene::busy, WornDots::digest);
        Twins.give("digest", Scene.full().digest(), Scene::full, WornDots::digest);
        WornDots x = Scene.busy();
        long before = x.digest();
        Check.gives("again", before, x::digest);
    }

    /** The values of the digest in their order, asked one by one. */
    private static List<Long> valuesOf(WornDots x, int states) {
        int dots = x.whole(0);
        int labels = x.whole(8);
        int customers = x.whole(9);
        List<Long> values = new ArrayList<>();
        values.add((long) states);
        for (int what = 0; what < 18; what++) {
            values.add((long) x.whole(what));
        }
        for (int dot = 0; dot < dots; dot++) {
            for (int what = 0; what < 5; what++) {
                values.add((long) x.dot(dot, what));
            }
        }
        for (int label = 0; label < labels; label++) {
            for (int what = 0; what < 12; what++) {
                values.add((long) (what < 6 ? x.label(label, what) : x.row(label, what - 6)));
            }
        }
        for (int customer = 0; customer < customers; customer++) {
            for (int what = 0; what < 6; what++) {
                values.add((long) x.customer(customer, what));
            }
            for (int label = 0; label < labels; label++) {
                values.add((long) x.bestOffset(customer, label));
            }
        }
        values.add((long) x.mostWorn());
        return values;
    }

    private static BigInteger hashOf(List<Long> values) {
        BigInteger hash = HASH_START;
        for (long value : values) {
            hash = hash.multiply(BigInteger.valueOf(31)).add(BigInteger.valueOf(value));
        }
        return hash;
    }

    private static long hashByHand(WornDots x, int states) {
        return hashOf(valuesOf(x, states)).longValue();
    }
}
