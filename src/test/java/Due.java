/** Counts the answers that are not as due, tells them, and ends a test's run. */
final class Due {
    private static int wrong = 0;
    private static int asked = 0;

    private Due() {
    }

    static void is(String call, long got, long want) {
        asked++;
        if (got != want) {
            wrong++;
            System.out.println(call + " answered " + got + ", due is " + want);
        }
    }

    /** Feeds the letters of a text, one behind the other. */
    static void feed(SurfaceSums x, String text) {
        for (int i = 0; i < text.length(); i++) {
            x.feed(text.charAt(i));
        }
    }

    /** The answer of surface() to a text. */
    static int told(SurfaceSums x, int surface, String text) {
        feed(x, text);
        return x.surface(surface);
    }

    /** A surface by its letters, read by pieceOf(). */
    static String letters(SurfaceSums x, int surface) {
        StringBuilder text = new StringBuilder();
        for (int i = 0; x.pieceOf(surface, i) >= 0; i++) {
            text.append("omwcxhk".charAt(x.pieceOf(surface, i)));
        }
        return text.toString();
    }

    static void letters(SurfaceSums x, int surface, String want) {
        String got = letters(x, surface);
        asked++;
        if (!got.equals(want)) {
            wrong++;
            System.out.println("surface " + surface + " is " + got + ", due is " + want);
        }
    }

    static void end() {
        System.out.println(asked + " answers, " + wrong + " not as due");
        if (wrong != 0) {
            System.exit(1);
        }
    }
}
