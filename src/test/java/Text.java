/** Puts a command text into a printer. */
final class Text {

    private Text() {
    }

    static void put(WornDots x, String text) {
        x.clearCommands();
        for (int i = 0; i < text.length(); i++) {
            x.type(text.charAt(i));
        }
    }

    static int run(WornDots x, String text) {
        put(x, text);
        return x.runCommands();
    }
}
