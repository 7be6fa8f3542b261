import java.util.Random;

/** Random TEXTS of LAWS: most can be read, some can't. */
final class Texts {
    private static final String[] WORDS =
            {"window", "thing", "place", "colour", "sort", "month", "minute", "coat", "person"};
    private static final String[] ODD = {"if", "or", "and", "not", "(", ")", "[", "]", ";", "+", "*", "/", "-", "<", ">",
        "=", "limit", "cost", "free", "hidden", "window", "1000", "1001", "0", "x", "iff", "A", "\t", "@", "  ", "00", "",
        "99999999999999999999", "000000000000001000", "\u0000", "\u00ff"};
    private final Random random;

    Texts(Random random) {
        this.random = random;
    }

    private String gap() {
        int n = random.nextInt(8);
        return n == 0 ? "  " : " ";
    }

    String part(int depth) {
        int n = random.nextInt(depth > 0 ? 12 : 10);
        if (n < 3) {
            return Integer.toString(random.nextInt(9));
        }
        if (n == 3) {
            return Integer.toString(random.nextInt(1001));
        }
        return n < 10 ? WORDS[random.nextInt(WORDS.length)] : "[" + sum(depth - 1) + "]";
    }

    String term(int depth) {
        StringBuilder text = new StringBuilder(part(depth));
        for (int more = random.nextInt(4); more > 2; more = random.nextInt(4)) {
            text.append(random.nextBoolean() ? "*" : "/").append(part(depth));
        }
        return text.toString();
    }

    String sum(int depth) {
        StringBuilder text = new StringBuilder(term(depth));
        for (int more = random.nextInt(4); more > 2; more = random.nextInt(4)) {
            text.append(random.nextBoolean() ? " + " : "-").append(term(depth));
        }
        return text.toString();
    }

    String plain(int depth) {
        int n = random.nextInt(depth > 0 ? 8 : 6);
        if (n == 5) {
            return "not" + gap() + plain(depth);
        }
        if (n > 5) {
            return "(" + test(depth - 1) + ")";
        }
        return sum(depth) + "<>=".charAt(random.nextInt(3)) + sum(depth);
    }

    String test(int depth) {
        StringBuilder text = new StringBuilder(plain(depth));
        for (int more = random.nextInt(3); more > 1; more = random.nextInt(3)) {
            text.append(gap()).append(random.nextBoolean() ? "or" : "and").append(gap()).append(plain(depth));
        }
        return text.toString();
    }

    String clause() {
        String head = new String[] {"limit", "cost", "free", "hidden"}[random.nextInt(4)];
        String text = head.length() == 5 || head.equals("cost") ? head + gap() + sum(2) : head;
        boolean bare = random.nextInt(6) == 0 && text.length() > 6;
        return bare ? text : text + gap() + "if" + gap() + test(2);
    }

    String law() {
        StringBuilder text = new StringBuilder(clause());
        int more = random.nextInt(random.nextInt(10) == 0 ? 14 : 4);
        for (int i = 0; i < more; i++) {
            text.append(random.nextBoolean() ? ";" : " ; ").append(clause());
        }
        return cut(text.toString());
    }

    /** A TEXT that makes WINDOWS see little and much, now and then. */
    String tightLaw() {
        String[] some = {
            "limit " + (1 + random.nextInt(4)),
            "limit 2+window/" + (1 + random.nextInt(4)),
            "limit " + random.nextInt(9) + " if window=" + random.nextInt(8) + " and month>" + random.nextInt(12),
            "limit " + random.nextInt(5) + " if minute/" + (1 + random.nextInt(40)) + "=" + random.nextInt(4),
            "limit 5-minute/" + (10 + random.nextInt(30)),
            "free if colour=" + random.nextInt(8) + " and not window=" + random.nextInt(4),
            "free if sort=" + random.nextInt(4) + " or person*coat=" + random.nextInt(5),
            "hidden if window+thing=" + random.nextInt(10) + " and coat=0",
            "hidden if coat=1 and place>" + random.nextInt(10) + " and minute<" + random.nextInt(60),
            "hidden if month=" + random.nextInt(12) + " and (thing=1 or thing=2) and coat<1",
            "cost colour*" + random.nextInt(4) + "+sort",
            "cost " + random.nextInt(20) + "/thing if colour=0",
            "free if [minute-" + random.nextInt(120) + "]*1000*1000*1000>0"};
        StringBuilder text = new StringBuilder(some[random.nextInt(some.length)]);
        for (int i = random.nextInt(7); i > 0; i--) {
            text.append("; ").append(some[random.nextInt(some.length)]);
        }
        return cut(text.toString());
    }

    /** A TEXT with something changed, dropped or put in at random. */
    String spoiltLaw() {
        StringBuilder text = new StringBuilder(law());
        for (int changes = 1 + random.nextInt(3); changes > 0; changes--) {
            int at = random.nextInt(text.length() + 1);
            int n = random.nextInt(4);
            if (n == 0 && at < text.length()) {
                text.deleteCharAt(at);
            } else if (n == 1) {
                text.setLength(at);
            } else {
                text.insert(at, (random.nextBoolean() ? " " : "") + ODD[random.nextInt(ODD.length)]);
            }
        }
        return cut(text.toString());
    }

    private static String cut(String text) {
        return text.length() > 400 ? text.substring(0, 400) : text;
    }
}
