import java.io.IOException;
import java.nio.file.Files;
import java.nio.file.Path;
import java.nio.file.Paths;
import java.util.LinkedHashMap;
import java.util.Map;
import java.util.function.Supplier;

/**
 * Tests by sentences of the document. by() tells the promise (or the part of "Terms") and the sentence that all
 * asked from there on is asked by; the sentence is looked up in the document, and at the end nothing of the document's
 * promises and terms may be left that no test was named by.
 */
final class Bound {
    static final int MIN = Integer.MIN_VALUE;
    static final int MAX = Integer.MAX_VALUE;
    private static final int[] REASONS = {-1, -2, -3, -5, -6};
    private static final Map<String, String> SECTIONS = new LinkedHashMap<>();
    private static final Map<String, boolean[]> NAMED = new LinkedHashMap<>();
    private static String name = "";

    interface Call {
        int on(ThreeColours town);
    }

    interface Numbers {
        int on(ThreeColours town, int[] numbers);
    }

    private Bound() {
    }

    static void open() throws IOException {
        Path path = Paths.get("../shared/DOC.md");
        if (!Files.exists(path)) {
            System.out.println("no document at " + path + ": sentences are not looked up");
            return;
        }
        String text = Files.readString(path).replaceAll("```(text)?", " ").replace("&lt;", "<").replace("&gt;", ">")
                .replaceAll("\\s+", " ");
        String terms = " " + between(text, "## Terms", "The constants:");
        String[] parts = {"I", "II", "III", "IV"};
        for (int i = 0; i < parts.length; i++) {
            String to = i + 1 < parts.length ? " " + parts[i + 1] + ". " : null;
            keep(parts[i], to == null ? terms.substring(terms.indexOf(" IV. ") + 5)
                    : between(terms, " " + parts[i] + ". ", to));
        }
        keep("What it is", between(text, "## What it is", "## The public face"));
        keep("The constants", between(text, "The constants:", "## Promise 1:"));
        for (int promise = 1; promise <= 44; promise++) {
            String head = "## Promise " + promise + ": ";
            String section = between(text, head, promise == 44 ? "## Not promised" : "## Promise " + (promise + 1) + ": ");
            keep(Integer.toString(promise), section.substring(section.indexOf("`: ") + 3));
        }
    }

    private static String between(String text, String from, String to) {
        int start = text.indexOf(from) + from.length();
        return text.substring(start, text.indexOf(to, start)).trim();
    }

    private static void keep(String section, String text) {
        SECTIONS.put(section, text);
        NAMED.put(section, new boolean[text.length()]);
    }

    static void by(int promise, String sentence) {
        by(Integer.toString(promise), sentence);
    }

    static void by(String section, String sentence) {
        name = (Character.isDigit(section.charAt(0)) ? "Promise " : "Terms, ") + section + " \"" + sentence + "\": ";
        if (SECTIONS.isEmpty()) {
            return;
        }
        String text = SECTIONS.get(section);
        boolean found = false;
        for (int at = text.indexOf(sentence); at >= 0; at = text.indexOf(sentence, at + 1)) {
            found = true;
            java.util.Arrays.fill(NAMED.get(section), at, at + sentence.length(), true);
        }
        Due.holds(name + "stands in the document", found);
    }

    /** What no test was named by. */
    static void close() {
        for (String section : SECTIONS.keySet()) {
            StringBuilder left = new StringBuilder();
            for (int i = 0; i < SECTIONS.get(section).length(); i++) {
                left.append(NAMED.get(section)[i] ? ' ' : SECTIONS.get(section).charAt(i));
            }
            String words = left.toString().replaceAll("[^A-Za-z0-9]+", " ").trim();
            if (!section.equals("What it is") && !words.isEmpty()) {
                Due.holds("Section " + section + ": no test is named by: " + left.toString().replaceAll(" +", " "), false);
            }
        }
    }

    static void due(String what, int got, int want) {
        Due.due(name + what, got, want);
    }

    static void holds(String what, boolean so) {
        Due.holds(name + what, so);
    }

    /**
     * A call that is REFUSED: status() tells by what, count() has one more of that and of no other, and all else is as
     * in a town in which the call was not made.
     */
    static void refused(String what, Supplier<ThreeColours> made, int reason, Call call) {
        ThreeColours town = made.get();
        ThreeColours twin = made.get();
        due(what, call.on(town), reason);
        due(what + ": status()", town.status(), reason);
        for (int i = 0; i < REASONS.length; i++) {
            due(what + ": count(" + (6 + i) + ")", town.count(6 + i), twin.count(6 + i) + (REASONS[i] == reason ? 1 : 0));
        }
        alike(what, town, twin);
    }

    /** A call that changes nothing, not even status(), whatever it answers. */
    static void leaves(String what, Supplier<ThreeColours> made, int answer, Call call) {
        ThreeColours town = made.get();
        ThreeColours twin = made.get();
        due(what, call.on(town), answer);
        due(what + ": status()", town.status(), twin.status());
        for (int i = 0; i < REASONS.length; i++) {
            due(what + ": count(" + (6 + i) + ")", town.count(6 + i), twin.count(6 + i));
        }
        alike(what, town, twin);
    }

    /** A call that is taken: status() is 0, nothing is counted as REFUSED. */
    static void taken(String what, Supplier<ThreeColours> made, Call call) {
        ThreeColours town = made.get();
        int[] before = refusals(town);
        call.on(town);
        due(what + " is taken: status()", town.status(), 0);
        for (int i = 0; i < REASONS.length; i++) {
            due(what + " is taken: count(" + (6 + i) + ")", town.count(6 + i), before[i]);
        }
    }

    private static int[] refusals(ThreeColours town) {
        int[] all = new int[REASONS.length];
        for (int i = 0; i < all.length; i++) {
            all[i] = town.count(6 + i);
        }
        return all;
    }

    static void alike(String what, ThreeColours town, ThreeColours twin) {
        Map<String, Integer> one = View.of(town);
        Map<String, Integer> other = View.of(twin);
        for (String asked : one.keySet()) {
            if (!one.get(asked).equals(other.get(asked))) {
                due(what + ": behind it " + asked, one.get(asked), other.get(asked));
            }
        }
    }

    /**
     * Each number of a call by itself at both ends of what it may be, and next to them outside; the others as they are
     * given. Numbers without ends (null) are left. Inside the call is taken, outside it is REFUSED by -1.
     */
    static void ends(String call, Supplier<ThreeColours> made, int[] good, int[][] ends, Numbers numbers) {
        for (int i = 0; i < good.length; i++) {
            if (ends[i] == null) {
                continue;
            }
            for (int inside : ends[i]) {
                int[] row = with(good, i, inside);
                taken(text(call, row), made, town -> numbers.on(town, row));
            }
            for (int outside : outside(ends[i])) {
                int[] row = with(good, i, outside);
                refused(text(call, row), made, -1, town -> numbers.on(town, row));
            }
        }
    }

    /** The same for calls that are not REFUSED: outside they answer what is given and change nothing, inside something else. */
    static void asks(String call, Supplier<ThreeColours> made, int[] good, int[][] ends, int none, Numbers numbers) {
        for (int i = 0; i < good.length; i++) {
            if (ends[i] == null) {
                continue;
            }
            for (int inside : ends[i]) {
                int[] row = with(good, i, inside);
                holds(text(call, row) + " has an answer", numbers.on(made.get(), row) != none);
            }
            for (int outside : outside(ends[i])) {
                int[] row = with(good, i, outside);
                leaves(text(call, row), made, none, town -> numbers.on(town, row));
            }
        }
    }

    private static int[] outside(int[] ends) {
        return new int[] {ends[0] - 1, ends[1] + 1, MIN, MAX};
    }

    private static int[] with(int[] good, int i, int number) {
        int[] row = good.clone();
        row[i] = number;
        return row;
    }

    private static String text(String call, int[] row) {
        String numbers = java.util.Arrays.toString(row);
        return call + "(" + numbers.substring(1, numbers.length() - 1) + ")";
    }
}
