import java.util.Random;

/** Towns in which people meet before windows, asked of promises 24 to 26 and 35 to 40, compared with the Oracle. */
public final class WayFuzzTest {
    private final Random random;
    private final Pair pair = new Pair();
    private int people;

    private WayFuzzTest(long seed) {
        random = new Random(seed);
    }

    public static void main(String[] args) {
        long from = args.length > 0 ? Long.parseLong(args[0]) : 1;
        long runs = args.length > 1 ? Long.parseLong(args[1]) : 400;
        for (long seed = from; seed < from + runs; seed++) {
            WayFuzzTest test = new WayFuzzTest(seed);
            test.build();
            test.ask();
            test.pair.call("month", test.random.nextInt(12));
            test.ask();
            if (test.pair.wrong) {
                System.out.println("seed " + seed);
                System.exit(1);
            }
        }
        System.out.println(runs + " towns gone through");
    }

    private void build() {
        int colours = 2 + random.nextInt(6);
        for (int i = random.nextInt(5); i > 0; i--) {
            pair.call("thing", random.nextInt(4), random.nextInt(colours), 0, 0, 0);
        }
        people = 1 + random.nextInt(5);
        for (int i = 0; i < people; i++) {
            pair.call("person", random.nextInt(colours));
        }
        for (int i = 1 + random.nextInt(8); i > 0; i--) {
            pair.call("window", random.nextInt(32), random.nextInt(1024) & (random.nextBoolean() ? 1023 : random.nextInt(1024)), 0);
        }
        int streets = 8 + random.nextInt(20);
        for (int i = 0; i < streets; i++) {
            pair.call("street", random.nextInt(10), random.nextInt(10), 1);
        }
        for (int i = random.nextInt(40); i > 0; i--) {
            int minute = random.nextBoolean() ? random.nextInt(120) : random.nextInt(12);
            pair.call("walk", random.nextInt(people), minute, random.nextInt(11) - 1);
        }
        int limit = 1 + random.nextInt(3);
        String[] laws = {"limit " + limit, "limit " + limit + "+minute/" + (1 + random.nextInt(50)),
            "limit " + limit + ";limit 0 if minute-minute/7*7=window",
            "limit " + limit + ";free if minute>" + random.nextInt(20) + " and coat=1 and person<" + random.nextInt(5),
            "limit 1;hidden if place=minute/" + (1 + random.nextInt(9)) + " and coat=1",
            new Texts(random).tightLaw()};
        pair.law(laws[random.nextInt(laws.length)]);
        pair.call("force", 0);
        if (random.nextInt(4) == 0) {
            pair.call("same", random.nextInt(colours), random.nextInt(colours), 1);
        }
    }

    private void ask() {
        for (int what = 0; what < 3; what++) {
            pair.call("judge", what);
            pair.call("near", what);
        }
        for (int window = 0; window < pair.count(1); window++) {
            pair.call("bad", window);
        }
        for (int i = 0; i < 8; i++) {
            way(random.nextInt(people), random.nextInt(i == 0 ? 120 : 15), random.nextInt(10), random.nextInt(10));
        }
        for (int i = 0; i < 3; i++) {
            pair.call("day", random.nextInt(1_000_001));
            pair.call("drawn", random.nextInt(people), 119);
            int k = 1 + random.nextInt(8);
            int l = 1 + random.nextInt(4);
            for (int at = -1; at < people; at++) {
                pair.call("file", k, l, at);
            }
        }
    }

    private void way(int person, int minute, int from, int to) {
        int soonest = pair.call("soon", person, minute, from, to);
        for (int at = minute; at <= soonest && at < minute + 9; at++) {
            pair.call("way", person, minute, from, to, at);
        }
    }
}
