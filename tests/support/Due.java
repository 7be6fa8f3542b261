/** Compares answers with those that are due, tells those that differ, and ends the test with exit code 1 then. */
final class Due {
    private static int wrong;
    private static int asked;

    private Due() {
    }

    static void due(String promise, int got, int want) {
        asked++;
        if (got != want) {
            wrong++;
            System.out.println(promise + ": answered " + got + ", due is " + want);
        }
    }

    static void holds(String promise, boolean so) {
        due(promise, so ? 1 : 0, 1);
    }

    /** Feeds a TEXT and cuts the TAPE to it; the TAPE was empty. */
    static void tape(ThreeColours town, String text) {
        int[] bytes = new int[(text.length() + 19) / 20 * 20];
        for (int i = 0; i < text.length(); i++) {
            bytes[i] = text.charAt(i) & 255;
        }
        for (int i = 0; i < bytes.length; i += 20) {
            town.feed(four(bytes, i), four(bytes, i + 4), four(bytes, i + 8), four(bytes, i + 12), four(bytes, i + 16));
        }
        town.end(text.length());
    }

    private static int four(int[] bytes, int i) {
        return bytes[i] << 24 | bytes[i + 1] << 16 | bytes[i + 2] << 8 | bytes[i + 3];
    }

    static int law(ThreeColours town, String text) {
        tape(town, text);
        return town.law();
    }

    /** A town with that LAW in FORCE. */
    static ThreeColours under(String text) {
        ThreeColours town = new ThreeColours();
        due("the law '" + text + "'", law(town, text), 0);
        town.force(0);
        return town;
    }

    static void finish() {
        System.out.println(asked + " answers, " + wrong + " wrong");
        if (wrong > 0) {
            System.exit(1);
        }
    }
}
