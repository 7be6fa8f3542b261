import java.math.BigInteger;
import java.util.ArrayList;
import java.util.Arrays;
import java.util.HashMap;
import java.util.List;
import java.util.Map;

/**
 * The document once more, as plainly as can be: nothing is kept between calls, every PAINTING is tried, every
 * order is made. Only for comparing; it shares no line with the program.
 */
final class Oracle {
    static final class Fault extends RuntimeException {
        private static final long serialVersionUID = 1L;
        final int place;

        Fault(int place) {
            super("fault", null, false, false);
            this.place = place;
        }
    }

    static final class Broken extends Exception {
        private static final long serialVersionUID = 1L;

        Broken() {
            super("broken", null, false, false);
        }
    }

    /** A node of a SUM or TEST. */
    static final class Node {
        final String kind;
        final int number;
        final Node left;
        final Node right;

        Node(String kind, int number, Node left, Node right) {
            this.kind = kind;
            this.number = number;
            this.left = left;
            this.right = right;
        }

        long value(Map<String, Integer> asked) throws Broken {
            switch (kind) {
                case "number": return number;
                case "+": return check(left.value(asked) + right.value(asked));
                case "-": return check(left.value(asked) - right.value(asked));
                case "*": return check(left.value(asked) * right.value(asked));
                case "/": {
                    long a = left.value(asked);
                    long b = right.value(asked);
                    if (b == 0) {
                        throw new Broken();
                    }
                    return check(a / b);
                }
                default: return asked.getOrDefault(kind, 0);
            }
        }

        boolean so(Map<String, Integer> asked) throws Broken {
            switch (kind) {
                case "or": return left.so(asked) || right.so(asked);
                case "and": return left.so(asked) && right.so(asked);
                case "not": return !left.so(asked);
                case "<": return left.value(asked) < right.value(asked);
                case ">": return left.value(asked) > right.value(asked);
                case "=": return left.value(asked) == right.value(asked);
                default: throw new IllegalStateException(kind);
            }
        }

        private static long check(long value) throws Broken {
            if (Math.abs(value) > 1_000_000_000L) {
                throw new Broken();
            }
            return value;
        }
    }

    static final class Clause {
        String head;
        Node sum;
        Node test;

        Long tells(Map<String, Integer> asked) {
            try {
                if (test != null && !test.so(asked)) {
                    return null;
                }
                return sum == null ? 1L : sum.value(asked);
            } catch (Broken broken) {
                return null;
            }
        }
    }

    static final class Text {
        private static final List<String> WORDS =
                Arrays.asList("window", "thing", "place", "colour", "sort", "month", "minute", "coat", "person");
        final List<String> tokens = new ArrayList<>();
        final List<Integer> places = new ArrayList<>();
        int at;
        int parts;
        int open;

        Text(int[] bytes) {
            int i = 0;
            while (i < bytes.length) {
                int from = i;
                char sign = (char) bytes[i];
                i++;
                if (sign == ' ') {
                    continue;
                }
                boolean letter = sign >= 'a' && sign <= 'z';
                boolean digit = sign >= '0' && sign <= '9';
                StringBuilder token = new StringBuilder().append(sign);
                while (i < bytes.length && (letter && bytes[i] >= 'a' && bytes[i] <= 'z'
                        || digit && bytes[i] >= '0' && bytes[i] <= '9')) {
                    token.append((char) bytes[i]);
                    i++;
                }
                tokens.add(token.toString());
                places.add(from);
            }
            tokens.add("END");
            places.add(bytes.length);
        }

        String token() {
            return tokens.get(at);
        }

        boolean took(String wanted) {
            if (token().equals(wanted)) {
                at++;
                return true;
            }
            return false;
        }

        Fault fault() {
            return new Fault(places.get(at));
        }

        void need(String wanted) {
            if (!took(wanted)) {
                throw fault();
            }
        }

        List<Clause> clauses() {
            List<Clause> all = new ArrayList<>();
            do {
                if (all.size() == 12) {
                    throw fault();
                }
                all.add(clause());
            } while (took(";"));
            if (!token().equals("END")) {
                throw fault();
            }
            return all;
        }

        Clause clause() {
            Clause clause = new Clause();
            clause.head = token();
            if (took("limit") || took("cost")) {
                clause.sum = sum();
            } else if (!took("free") && !took("hidden")) {
                throw fault();
            }
            if (took("if")) {
                clause.test = test();
            }
            return clause;
        }

        Node test() {
            Node node = both();
            while (took("or")) {
                node = new Node("or", 0, node, both());
            }
            return node;
        }

        Node both() {
            Node node = plain();
            while (took("and")) {
                node = new Node("and", 0, node, plain());
            }
            return node;
        }

        void openBracket() {
            if (open == 8) {
                throw fault();
            }
            open++;
            at++;
        }

        Node plain() {
            if (took("not")) {
                return new Node("not", 0, plain(), null);
            }
            if (token().equals("(")) {
                openBracket();
                Node node = test();
                need(")");
                open--;
                return node;
            }
            Node left = sum();
            String sign = token();
            if (!took("<") && !took(">") && !took("=")) {
                throw fault();
            }
            return new Node(sign, 0, left, sum());
        }

        Node sum() {
            Node node = term();
            while (token().equals("+") || token().equals("-")) {
                String sign = token();
                at++;
                node = new Node(sign, 0, node, term());
            }
            return node;
        }

        Node term() {
            Node node = part();
            while (token().equals("*") || token().equals("/")) {
                String sign = token();
                at++;
                node = new Node(sign, 0, node, part());
            }
            return node;
        }

        Node part() {
            if (token().equals("[")) {
                openBracket();
                Node node = sum();
                need("]");
                open--;
                return node;
            }
            String word = token();
            boolean number = word.charAt(0) >= '0' && word.charAt(0) <= '9';
            if (!WORDS.contains(word) && !number || parts == 50) {
                throw fault();
            }
            if (number && new BigInteger(word).compareTo(BigInteger.valueOf(1000)) > 0) {
                throw fault();
            }
            parts++;
            at++;
            return number ? new Node("number", Integer.parseInt(word), null, null) : new Node(word, 0, null, null);
        }
    }

    /** What IMAGES keep. */
    static final class State {
        List<int[]> things = new ArrayList<>();
        List<int[]> windows = new ArrayList<>();
        List<Integer> coats = new ArrayList<>();
        List<int[]> walks = new ArrayList<>();
        List<List<Clause>> laws = new ArrayList<>();
        boolean[][] streets = new boolean[10][10];
        boolean[][] told = new boolean[8][8];
        int month;
        int inForce = -1;

        State copy() {
            State other = new State();
            for (int[] thing : things) {
                other.things.add(thing.clone());
            }
            for (int[] window : windows) {
                other.windows.add(window.clone());
            }
            other.coats.addAll(coats);
            for (int[] walk : walks) {
                other.walks.add(walk.clone());
            }
            other.laws.addAll(laws);
            for (int i = 0; i < 10; i++) {
                other.streets[i] = streets[i].clone();
            }
            for (int i = 0; i < 8; i++) {
                other.told[i] = told[i].clone();
            }
            other.month = month;
            other.inForce = inForce;
            return other;
        }
    }

    private State now = new State();
    private final State[] images = new State[2];
    private final List<Integer> tape = new ArrayList<>();
    private int fault = -1;
    private int spoilt;
    private int status;
    private final Map<Integer, Integer> refused = new HashMap<>();
    private int[][] day;

    private int no(int reason) {
        status = reason;
        refused.merge(reason, 1, Integer::sum);
        return reason;
    }

    private int yes(int answer) {
        status = 0;
        return answer;
    }

    private static boolean in(int number, int low, int high) {
        return number >= low && number <= high;
    }

    int thing(int sort, int colour, int wished, int cost, int worth) {
        if (!in(sort, 0, 3) || !in(colour, 0, 7) || !in(wished, 0, 7) || !in(cost, 0, 99) || !in(worth, 0, 99)) {
            return no(-1);
        }
        if (now.things.size() == 10) {
            return no(-5);
        }
        now.things.add(new int[] {sort, colour, wished, cost, worth, 0, 0, 0});
        return yes(now.things.size() - 1);
    }

    int put(int thing, int what, int value) {
        int[] highest = {3, 7, 7, 99, 99, 1};
        if (!in(what, 0, 5) || !in(value, 0, highest[what])) {
            return no(-1);
        }
        if (!in(thing, 0, now.things.size() - 1)) {
            return no(-2);
        }
        int was = now.things.get(thing)[what];
        now.things.get(thing)[what] = value;
        return yes(was);
    }

    int bloom(int thing, int months, int colour) {
        if (!in(months, 0, 4095) || !in(colour, 0, 7)) {
            return no(-1);
        }
        if (!in(thing, 0, now.things.size() - 1)) {
            return no(-2);
        }
        now.things.get(thing)[6] = months;
        now.things.get(thing)[7] = colour;
        return yes(0);
    }

    int window(int things, int places, int shut) {
        if (!in(things, 0, 1023) || !in(places, 0, 1023) || !in(shut, 0, 99)) {
            return no(-1);
        }
        if (now.windows.size() == 8) {
            return no(-5);
        }
        now.windows.add(new int[] {things, places, shut});
        return yes(now.windows.size() - 1);
    }

    int turn(int window, int what, int value) {
        if (!in(what, 0, 2) || !in(value, 0, what == 2 ? 99 : 1023)) {
            return no(-1);
        }
        if (!in(window, 0, now.windows.size() - 1)) {
            return no(-2);
        }
        int was = now.windows.get(window)[what];
        now.windows.get(window)[what] = value;
        return yes(was);
    }

    private int shows(int thing, int painted, int month) {
        int[] it = now.things.get(thing);
        return (it[6] & 1 << month) != 0 ? it[7] : painted;
    }

    int of(int thing, int what) {
        if (!in(thing, 0, now.things.size() - 1) || !in(what, 0, 8)) {
            return -1;
        }
        int[] it = now.things.get(thing);
        return what == 8 ? shows(thing, it[1], now.month) : it[what];
    }

    int street(int one, int other, int there) {
        if (!in(one, 0, 9) || !in(other, 0, 9) || !in(there, 0, 1)) {
            return no(-1);
        }
        if (one == other) {
            return no(-3);
        }
        int was = now.streets[one][other] ? 1 : 0;
        now.streets[one][other] = there == 1;
        now.streets[other][one] = there == 1;
        return yes(was);
    }

    int person(int coat) {
        if (!in(coat, 0, 7)) {
            return no(-1);
        }
        if (now.coats.size() == 5) {
            return no(-5);
        }
        now.coats.add(coat);
        return yes(now.coats.size() - 1);
    }

    int coat(int person, int colour) {
        if (!in(colour, 0, 7)) {
            return no(-1);
        }
        if (!in(person, 0, now.coats.size() - 1)) {
            return no(-2);
        }
        return yes(now.coats.set(person, colour));
    }

    int same(int one, int other, int are) {
        if (!in(one, 0, 7) || !in(other, 0, 7) || !in(are, 0, 1)) {
            return no(-1);
        }
        if (one == other) {
            return no(-3);
        }
        int was = now.told[one][other] ? 1 : 0;
        now.told[one][other] = are == 1;
        now.told[other][one] = are == 1;
        return yes(was);
    }

    /** By Warshall's closure of the pairs told. */
    private static int[] lowest(boolean[][] told) {
        boolean[][] one = new boolean[8][8];
        for (int i = 0; i < 8; i++) {
            one[i] = told[i].clone();
            one[i][i] = true;
        }
        for (int k = 0; k < 8; k++) {
            for (int i = 0; i < 8; i++) {
                for (int j = 0; j < 8; j++) {
                    one[i][j] |= one[i][k] && one[k][j];
                }
            }
        }
        int[] low = new int[8];
        for (int i = 0; i < 8; i++) {
            while (!one[i][low[i]]) {
                low[i]++;
            }
        }
        return low;
    }

    int counts(int colour) {
        return in(colour, 0, 7) ? lowest(now.told)[colour] : -1;
    }

    int month(int month) {
        if (!in(month, 0, 11)) {
            return no(-1);
        }
        int was = now.month;
        now.month = month;
        return yes(was);
    }

    int walk(int person, int minute, int place) {
        if (!in(minute, 0, 119) || !in(place, -1, 9)) {
            return no(-1);
        }
        if (!in(person, 0, now.coats.size() - 1)) {
            return no(-2);
        }
        if (now.walks.size() == 60) {
            return no(-5);
        }
        now.walks.add(new int[] {person, minute, place});
        return yes(now.walks.size());
    }

    int where(int person, int minute) {
        if (!in(person, 0, now.coats.size() - 1) || !in(minute, 0, 119)) {
            return -1;
        }
        for (int then = minute; then >= 0; then--) {
            for (int i = now.walks.size() - 1; i >= 0; i--) {
                int[] walk = now.walks.get(i);
                if (walk[0] == person && walk[1] == then) {
                    return walk[2];
                }
            }
        }
        return -1;
    }

    int feed(int a, int b, int c, int d, int e) {
        if (tape.size() > 380) {
            return -1;
        }
        for (int four : new int[] {a, b, c, d, e}) {
            tape.add(four >>> 24);
            tape.add(four >>> 16 & 255);
            tape.add(four >>> 8 & 255);
            tape.add(four & 255);
        }
        return tape.size();
    }

    int end(int n) {
        if (n < 0 || n > tape.size()) {
            return -1;
        }
        while (tape.size() > n) {
            tape.remove(tape.size() - 1);
        }
        return n;
    }

    int row() {
        if (tape.isEmpty()) {
            return no(-6);
        }
        int came = 0;
        spoilt = 0;
        while (!tape.isEmpty()) {
            if (tape.size() < 3) {
                spoilt++;
                tape.clear();
                continue;
            }
            int person = tape.remove(0);
            int minute = tape.remove(0);
            int place = tape.remove(0);
            if (person < now.coats.size() && minute < 120 && (place < 10 || place == 255) && now.walks.size() < 60) {
                now.walks.add(new int[] {person, minute, place == 255 ? -1 : place});
                came++;
            } else {
                spoilt++;
            }
        }
        return yes(came);
    }

    int spoilt() {
        return spoilt;
    }

    int law() {
        int[] bytes = tape.stream().mapToInt(Integer::intValue).toArray();
        tape.clear();
        if (now.laws.size() == 6) {
            return no(-5);
        }
        try {
            now.laws.add(new Text(bytes).clauses());
            fault = -1;
            return yes(now.laws.size() - 1);
        } catch (Fault found) {
            fault = found.place;
            return no(-6);
        }
    }

    int fault() {
        return fault;
    }

    int force(int law) {
        if (!in(law, -1, now.laws.size() - 1)) {
            return no(-2);
        }
        int was = now.inForce;
        now.inForce = law;
        return yes(was);
    }

    private Long told(String head, Map<String, Integer> asked) {
        Long told = null;
        if (now.inForce >= 0) {
            for (Clause clause : now.laws.get(now.inForce)) {
                Long it = clause.head.equals(head) ? clause.tells(asked) : null;
                told = it != null ? it : told;
            }
        }
        return told;
    }

    private static int clamp(long value, int high) {
        return (int) Math.max(0, Math.min(high, value));
    }

    private int price(int thing, int colour) {
        int[] it = now.things.get(thing);
        if (it[1] == colour) {
            return 0;
        }
        Map<String, Integer> asked = new HashMap<>();
        asked.put("thing", thing);
        asked.put("sort", it[0]);
        asked.put("colour", colour);
        Long told = told("cost", asked);
        return told == null ? it[3] : clamp(told, 99);
    }

    int costs(int thing, int colour) {
        return in(thing, 0, now.things.size() - 1) && in(colour, 0, 7) ? price(thing, colour) : -1;
    }

    private int limit(int window, int month, int minute) {
        Map<String, Integer> asked = new HashMap<>();
        asked.put("window", window);
        asked.put("month", month);
        asked.put("minute", minute);
        Long told = told("limit", asked);
        return told == null ? 3 : clamp(told, 8);
    }

    /** SEEN with THINGS painted so, PEOPLE at those places. */
    private int seen(int window, int month, int minute, int[] painted, int[] places, int[] low) {
        int bits = 0;
        int[] view = now.windows.get(window);
        Map<String, Integer> asked = new HashMap<>();
        for (int thing = 0; thing < now.things.size(); thing++) {
            if ((view[0] & 1 << thing) != 0) {
                int colour = shows(thing, painted[thing], month);
                asked.clear();
                asked.put("window", window);
                asked.put("thing", thing);
                asked.put("colour", colour);
                asked.put("sort", now.things.get(thing)[0]);
                asked.put("month", month);
                asked.put("minute", minute);
                if (told("hidden", asked) == null && told("free", asked) == null) {
                    bits |= 1 << low[colour];
                }
            }
        }
        for (int person = 0; person < places.length; person++) {
            if (places[person] >= 0 && (view[1] & 1 << places[person]) != 0) {
                int colour = now.coats.get(person);
                asked.clear();
                asked.put("window", window);
                asked.put("place", places[person]);
                asked.put("colour", colour);
                asked.put("month", month);
                asked.put("minute", minute);
                asked.put("coat", 1);
                asked.put("person", person);
                if (told("hidden", asked) == null && told("free", asked) == null) {
                    bits |= 1 << low[colour];
                }
            }
        }
        return bits;
    }

    private int[] painted() {
        int[] colours = new int[now.things.size()];
        for (int i = 0; i < colours.length; i++) {
            colours[i] = now.things.get(i)[1];
        }
        return colours;
    }

    private int[] walked(int minute) {
        int[] places = new int[now.coats.size()];
        for (int i = 0; i < places.length; i++) {
            places[i] = where(i, minute);
        }
        return places;
    }

    private boolean holds(int window, int minute, int[] places) {
        int bits = seen(window, now.month, minute, painted(), places, lowest(now.told));
        return Integer.bitCount(bits) <= limit(window, now.month, minute);
    }

    int sees(int window, int minute, int what) {
        if (!in(window, 0, now.windows.size() - 1) || !in(minute, 0, 119) || !in(what, 0, 2)) {
            return -1;
        }
        if (what == 0) {
            return seen(window, now.month, minute, painted(), walked(minute), lowest(now.told));
        }
        return what == 1 ? limit(window, now.month, minute) : holds(window, minute, walked(minute)) ? 1 : 0;
    }

    int judge(int what) {
        if (!in(what, 0, 2)) {
            return -1;
        }
        int total = 0;
        for (int minute = 0; minute < 120; minute++) {
            int[] places = walked(minute);
            for (int window = 0; window < now.windows.size(); window++) {
                if (!holds(window, minute, places)) {
                    if (what < 2) {
                        return what == 0 ? minute : window;
                    }
                    total++;
                }
            }
        }
        return what == 2 ? total : -1;
    }

    int bad(int window) {
        if (!in(window, 0, now.windows.size() - 1)) {
            return -1;
        }
        int total = 0;
        for (int minute = 0; minute < 120; minute++) {
            total += holds(window, minute, walked(minute)) ? 0 : 1;
        }
        return total;
    }

    /** One PAINTING: its colours, what it is worth, and which WINDOWS do not HOLD. */
    static final class Painting {
        int[] colours;
        int value;
        int price;
        int grey;
        int painted;
        int off;
        int failing;
    }

    private List<Painting> all;
    private String allOf;

    /** All PAINTINGS, in the order of their rows of choices; an eased WINDOW has a LIMIT of one more. */
    private List<Painting> paintings(int months, int eased) {
        String key = months + " " + eased;
        if (all != null && key.equals(allOf)) {
            return all;
        }
        List<Painting> found = new ArrayList<>();
        int n = now.things.size();
        int end = 1;
        for (int i = 0; i < n; i++) {
            end *= 3;
        }
        Looks looks = new Looks(months);
        for (int number = 0; number < end; number++) {
            int[] choice = new int[n];
            int left = number;
            for (int i = n - 1; i >= 0; i--) {
                choice[i] = left % 3;
                left /= 3;
            }
            Painting it = painting(choice);
            if (it != null) {
                it.failing = looks.failing(it.colours, eased);
                found.add(it);
            }
        }
        all = found;
        allOf = key;
        return found;
    }

    private Painting painting(int[] choice) {
        Painting it = new Painting();
        it.colours = new int[choice.length];
        for (int i = 0; i < choice.length; i++) {
            int[] thing = now.things.get(i);
            int colour = thing[1];
            int wished = thing[2];
            if (choice[i] == 1 && wished == colour || choice[i] == 2 && (wished == 0 || colour == 0)) {
                return null;
            }
            it.colours[i] = choice[i] == 0 ? colour : choice[i] == 1 ? wished : 0;
            if (thing[5] == 1 && it.colours[i] != wished) {
                return null;
            }
            if (choice[i] != 0) {
                int costs = prices[i][it.colours[i]];
                it.price += costs;
                it.value -= costs;
                it.painted++;
            }
            it.value += it.colours[i] == wished ? thing[4] : 0;
            it.off += it.colours[i] == wished ? 0 : 1;
            it.grey += it.colours[i] == 0 ? 1 : 0;
        }
        return it;
    }

    private int[][] prices;

    /** What each THING in each colour shows each WINDOW in each month, asked once: all PAINTINGS use it. */
    private final class Looks {
        final int months;
        final int[][][][] bits = new int[12][8][10][8];
        final int[][] limits = new int[12][8];

        Looks(int months) {
            this.months = months;
            prices = new int[10][8];
            int[] low = lowest(now.told);
            for (int thing = 0; thing < now.things.size(); thing++) {
                for (int colour = 0; colour < 8; colour++) {
                    prices[thing][colour] = price(thing, colour);
                }
            }
            for (int month = 0; month < 12; month++) {
                for (int window = 0; window < now.windows.size() && (months & 1 << month) != 0; window++) {
                    limits[month][window] = limit(window, month, 0);
                    int[] view = now.windows.get(window);
                    int was = view[0];
                    for (int thing = 0; thing < now.things.size(); thing++) {
                        view[0] = was & 1 << thing;
                        for (int colour = 0; colour < 8; colour++) {
                            int[] painted = new int[10];
                            painted[thing] = colour;
                            bits[month][window][thing][colour] = seen(window, month, 0, painted, new int[0], low);
                        }
                    }
                    view[0] = was;
                }
            }
        }

        int failing(int[] colours, int eased) {
            int failing = 0;
            for (int month = 0; month < 12; month++) {
                for (int window = 0; window < now.windows.size() && (months & 1 << month) != 0; window++) {
                    int seen = 0;
                    for (int thing = 0; thing < colours.length; thing++) {
                        seen |= bits[month][window][thing][colours[thing]];
                    }
                    if (Integer.bitCount(seen) > limits[month][window] + (window == eased ? 1 : 0)) {
                        failing |= 1 << window;
                    }
                }
            }
            return failing;
        }
    }

    private Painting firstBest(int months, int eased) {
        Painting best = null;
        for (Painting it : paintings(months, eased)) {
            if (it.failing == 0 && (best == null || it.value > best.value)) {
                best = it;
            }
        }
        return best;
    }

    int best(int months, int what) {
        if (!in(months, 1, 4095) || !in(what, 0, 2)) {
            return -10000;
        }
        Painting best = firstBest(months, -1);
        if (best == null) {
            return what == 1 ? -10000 : 0;
        }
        int number = 0;
        for (Painting it : paintings(months, -1)) {
            number += it.failing == 0 && (what == 2 || it.value == best.value) ? 1 : 0;
        }
        return what == 1 ? best.value : number;
    }

    int paint(int months, int thing) {
        if (!in(months, 1, 4095) || !in(thing, 0, now.things.size() - 1)) {
            return -1;
        }
        Painting best = firstBest(months, -1);
        return best == null ? -1 : best.colours[thing];
    }

    int fewest(int months, int what) {
        if (!in(months, 1, 4095) || !in(what, 0, 2)) {
            return -1;
        }
        int least = -1;
        for (Painting it : paintings(months, -1)) {
            int number = what == 0 ? it.grey : what == 1 ? it.painted : it.off;
            if (it.failing == 0 && (least < 0 || number < least)) {
                least = number;
            }
        }
        return least;
    }

    int take(int months) {
        if (!in(months, 1, 4095)) {
            return no(-1);
        }
        Painting best = firstBest(months, -1);
        if (best == null) {
            return no(-3);
        }
        for (int i = 0; i < best.colours.length; i++) {
            now.things.get(i)[1] = best.colours[i];
        }
        return yes(best.painted);
    }

    private int together(Painting it) {
        int sum = it.price;
        for (int window = 0; window < now.windows.size(); window++) {
            sum += (it.failing & 1 << window) != 0 ? now.windows.get(window)[2] : 0;
        }
        return sum;
    }

    private Painting mended(int months) {
        Painting least = null;
        for (Painting it : paintings(months, -1)) {
            if (least == null || together(it) < together(least)) {
                least = it;
            }
        }
        return least;
    }

    int mend(int months, int thing) {
        if (!in(months, 1, 4095) || !in(thing, -1, now.things.size() - 1)) {
            return -1;
        }
        Painting it = mended(months);
        return thing == -1 ? together(it) : it.colours[thing];
    }

    int shut(int months) {
        return in(months, 1, 4095) ? mended(months).failing : -1;
    }

    private boolean isGoodBut(int months, int kept) {
        for (Painting it : paintings(months, -1)) {
            if ((it.failing & kept) == 0) {
                return true;
            }
        }
        return false;
    }

    int bars(int months) {
        if (!in(months, 1, 4095)) {
            return -1;
        }
        int kept = (1 << now.windows.size()) - 1;
        if (isGoodBut(months, kept)) {
            return 0;
        }
        for (int window = 0; window < now.windows.size(); window++) {
            if (!isGoodBut(months, kept & ~(1 << window))) {
                kept -= 1 << window;
            }
        }
        return kept;
    }

    int third(int months, int window) {
        if (!in(months, 1, 4095) || !in(window, 0, now.windows.size() - 1)) {
            return -1;
        }
        Painting best = firstBest(months, -1);
        return best == null ? -1 : firstBest(months, window).value - best.value;
    }

    int near(int what) {
        if (!in(what, 0, 2)) {
            return -1;
        }
        int[] low = lowest(now.told);
        int fewest = 99;
        int[] found = null;
        for (int one = 0; one < 8; one++) {
            for (int other = one + 1; other < 8; other++) {
                if (low[one] == low[other]) {
                    continue;
                }
                boolean[][] told = new boolean[8][];
                for (int i = 0; i < 8; i++) {
                    told[i] = now.told[i].clone();
                }
                told[one][other] = true;
                told[other][one] = true;
                int fails = 0;
                for (int window = 0; window < now.windows.size(); window++) {
                    int bits = seen(window, now.month, 0, painted(), new int[0], lowest(told));
                    fails += Integer.bitCount(bits) > limit(window, now.month, 0) ? 1 : 0;
                }
                if (fails < fewest) {
                    fewest = fails;
                    found = new int[] {one, other, fails};
                }
            }
        }
        return found == null ? -1 : found[what];
    }

    private boolean open(int person, int minute, int place) {
        int[] places = walked(minute);
        places[person] = place;
        for (int window = 0; window < now.windows.size(); window++) {
            if ((now.windows.get(window)[1] & 1 << place) != 0 && !holds(window, minute, places)) {
                return false;
            }
        }
        return true;
    }

    /** The ways by the lowest rows: a map from the place to the lowest row that ends there. */
    private List<Integer> firstWay(int person, int minute, int from, int to) {
        Map<Integer, List<Integer>> rows = new HashMap<>();
        if (open(person, minute, from)) {
            rows.put(from, List.of(from));
        }
        for (int then = minute; then < 120; then++) {
            if (rows.containsKey(to)) {
                return rows.get(to);
            }
            Map<Integer, List<Integer>> later = new HashMap<>();
            for (int next = 0; next < 10 && then < 119; next++) {
                List<Integer> lowest = null;
                for (int place = 0; place < 10; place++) {
                    List<Integer> row = rows.get(place);
                    if (row != null && (place == next || now.streets[place][next])
                            && (lowest == null || isLower(row, lowest))) {
                        lowest = row;
                    }
                }
                if (lowest != null && open(person, then + 1, next)) {
                    List<Integer> longer = new ArrayList<>(lowest);
                    longer.add(next);
                    later.put(next, longer);
                }
            }
            rows = later;
        }
        return null;
    }

    private static boolean isLower(List<Integer> one, List<Integer> other) {
        for (int i = 0; i < one.size(); i++) {
            if (!one.get(i).equals(other.get(i))) {
                return one.get(i) < other.get(i);
            }
        }
        return false;
    }

    int soon(int person, int minute, int from, int to) {
        if (!in(person, 0, now.coats.size() - 1) || !in(minute, 0, 119) || !in(from, 0, 9) || !in(to, 0, 9)) {
            return -1;
        }
        List<Integer> row = firstWay(person, minute, from, to);
        return row == null ? -1 : minute + row.size() - 1;
    }

    int way(int person, int minute, int from, int to, int at) {
        if (!in(person, 0, now.coats.size() - 1) || !in(minute, 0, 119) || !in(from, 0, 9) || !in(to, 0, 9)) {
            return -1;
        }
        List<Integer> row = firstWay(person, minute, from, to);
        return row == null || at < minute || at >= minute + row.size() ? -1 : row.get(at - minute);
    }

    int file(int k, int l, int i) {
        int n = now.coats.size();
        if (!in(k, 1, 8) || !in(l, 1, 8) || !in(i, -1, n - 1)) {
            return -1;
        }
        int[] low = lowest(now.told);
        int number = 0;
        int[] first = null;
        int end = (int) Math.pow(n, n);
        for (int row = 0; row < end; row++) {
            int[] order = new int[n];
            int left = row;
            int used = 0;
            for (int j = n - 1; j >= 0; j--) {
                order[j] = left % n;
                left /= n;
                used |= 1 << order[j];
            }
            if (used == (1 << n) - 1 && isFile(order, Math.min(k, n), l, low)) {
                number++;
                first = first == null ? order : first;
            }
        }
        return i == -1 ? number : first == null ? -1 : first[i];
    }

    private boolean isFile(int[] order, int k, int l, int[] low) {
        for (int from = 0; from + k <= order.length; from++) {
            int bits = 0;
            for (int j = from; j < from + k; j++) {
                bits |= 1 << low[now.coats.get(order[j])];
            }
            if (Integer.bitCount(bits) > l) {
                return false;
            }
        }
        return true;
    }

    private long draws;

    private int draw(int n) {
        draws = (draws * 1103 + 12345) % 1000003;
        return (int) (draws % n);
    }

    int day(int seed) {
        if (!in(seed, 0, 1000000)) {
            return no(-1);
        }
        draws = seed;
        day = new int[120][now.coats.size()];
        int often = 0;
        for (int minute = 0; minute < 120; minute++) {
            for (int person = 0; person < now.coats.size(); person++) {
                if (minute == 0) {
                    day[0][person] = draw(10);
                    continue;
                }
                int place = day[minute - 1][person];
                List<Integer> streets = new ArrayList<>();
                for (int other = 0; other < 10; other++) {
                    if (now.streets[place][other]) {
                        streets.add(other);
                    }
                }
                int drawn = draw(streets.size() + 1);
                day[minute][person] = drawn == 0 ? place : streets.get(drawn - 1);
            }
            for (int window = 0; window < now.windows.size(); window++) {
                often += holds(window, minute, day[minute]) ? 0 : 1;
            }
        }
        return yes(often);
    }

    int drawn(int person, int minute) {
        return day == null || !in(minute, 0, 119) || !in(person, 0, day[0].length - 1) ? -1 : day[minute][person];
    }

    int image(int k) {
        if (!in(k, 0, 1)) {
            return no(-1);
        }
        images[k] = now.copy();
        return yes(0);
    }

    int back(int k) {
        if (!in(k, 0, 1)) {
            return no(-1);
        }
        if (images[k] == null) {
            return no(-2);
        }
        now = images[k].copy();
        return yes(0);
    }

    int count(int what) {
        int[] reasons = {-1, -2, -3, -5, -6};
        if (in(what, 6, 10)) {
            return refused.getOrDefault(reasons[what - 6], 0);
        }
        switch (what) {
            case 0: return now.things.size();
            case 1: return now.windows.size();
            case 2: return now.coats.size();
            case 3: return now.laws.size();
            case 4: return now.walks.size();
            case 5: return tape.size();
            case 11: return now.inForce;
            case 12: return now.month;
            default: return -1;
        }
    }

    int status() {
        return status;
    }

    /** What is kept of PAINTINGS is of the town as it is: forgotten with each call that may change it. */
    void forget() {
        all = null;
    }
}
