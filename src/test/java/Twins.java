/**
 * Two printers made alike, of which one gets a call that must change nothing: afterwards they must be alike in all
 * that can be seen, the states on the undo stack and the bytes of the command text too.
 */
final class Twins {

    interface Maker {
        WornDots make();
    }

    interface Use {
        long on(WornDots x);
    }

    private Twins() {
    }

    /** The call is refused with this exception, and changes nothing. */
    static void refuse(String name, Class<?> due, Maker maker, Use use) {
        WornDots x = maker.make();
        Check.refuses(name, due, () -> use.on(x));
        alike(name, maker, x);
    }

    /** The call answers this, and changes nothing. */
    static void give(String name, long due, Maker maker, Use use) {
        WornDots x = maker.make();
        Check.gives(name, due, () -> use.on(x));
        alike(name, maker, x);
    }

    /** The call saves the state from before it, and that alone: after an undo all is as it was. */
    static void undo(String name, Use use) {
        WornDots x = Scene.busyWithThreeStates();
        use.on(x);
        Check.gives("undo of " + name, 3, x::undo);
        alike(name + ", undone", Scene::busyWithThreeStates, x);
    }

    static void alike(String name, Maker maker, WornDots x) {
        Check.compare(name + " changes nothing", trace(maker.make()), trace(x));
    }

    /** All that can be seen of a printer, down to the last state on its stack; it is another one then. */
    private static String trace(WornDots x) {
        StringBuilder trace = new StringBuilder();
        int left;
        do {
            trace.append(x.digest()).append(' ');
            left = undone(x);
            trace.append(left).append(' ');
        } while (left > 0);
        trace.append(x.digest()).append(' ').append(x.runCommands()).append(' ').append(x.digest());
        return trace.toString();
    }

    /** How many states are left after an undo; -1 if there is none to undo. */
    private static int undone(WornDots x) {
        try {
            return x.undo();
        } catch (IllegalStateException e) {
            return -1;
        }
    }
}
