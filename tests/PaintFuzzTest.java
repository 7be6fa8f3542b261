import java.util.Random;

/** Towns in which many PAINTINGS are as good as others, asked all of promises 27 to 34, compared with the Oracle. */
public final class PaintFuzzTest {
    private final Random random;
    private final Pair pair = new Pair();
    private final int things;
    private final int windows;
    private final int colours;

    private PaintFuzzTest(long seed) {
        random = new Random(seed);
        things = 2 + random.nextInt(6);
        windows = 1 + random.nextInt(8);
        colours = 2 + random.nextInt(4);
    }

    public static void main(String[] args) {
        long from = args.length > 0 ? Long.parseLong(args[0]) : 1;
        long runs = args.length > 1 ? Long.parseLong(args[1]) : 600;
        for (long seed = from; seed < from + runs; seed++) {
            PaintFuzzTest test = new PaintFuzzTest(seed);
            test.build();
            for (int i = 0; i < 3; i++) {
                test.ask(test.months());
            }
            if (test.pair.wrong) {
                System.out.println("seed " + seed);
                System.exit(1);
            }
        }
        System.out.println(runs + " towns painted");
    }

    private void build() {
        int cost = 2 + random.nextInt(3);
        for (int i = 0; i < things; i++) {
            pair.call("thing", random.nextInt(4), random.nextInt(colours), random.nextInt(colours), random.nextInt(cost),
                    random.nextInt(4));
            if (random.nextInt(5) == 0) {
                pair.call("put", i, 5, 1);
            }
            if (random.nextInt(3) == 0) {
                pair.call("bloom", i, random.nextInt(4096), random.nextInt(colours));
            }
        }
        int seen = 2 + random.nextInt(4);
        for (int i = 0; i < windows; i++) {
            int bits = 0;
            for (int j = 0; j < seen; j++) {
                bits |= 1 << random.nextInt(things);
            }
            pair.call("window", bits, 0, random.nextInt(1 + cost));
        }
        pair.law(random.nextInt(3) == 0 ? new Texts(random).tightLaw() : text());
        pair.call("force", 0);
        if (random.nextInt(4) == 0) {
            pair.call("same", random.nextInt(colours), random.nextInt(colours), 1);
        }
    }

    private String text() {
        StringBuilder text = new StringBuilder("limit ").append(1 + random.nextInt(2));
        text.append(random.nextBoolean() ? "+[window+month]/" + (3 + random.nextInt(9)) : "");
        text.append(random.nextBoolean() ? ";hidden if thing=month/" + (1 + random.nextInt(3)) : "");
        text.append(random.nextBoolean() ? ";free if colour=1 and window>" + random.nextInt(6) : "");
        text.append(random.nextInt(3) == 0 ? ";limit 0 if month=3 and window=1" : "");
        text.append(random.nextInt(3) == 0 ? ";cost colour" : "");
        return text.toString();
    }

    private int months() {
        int n = random.nextInt(3);
        return n == 0 ? 4095 : n == 1 ? 1 + random.nextInt(4095) : 1 << random.nextInt(12) | 1 << random.nextInt(12);
    }

    private void ask(int months) {
        pair.call("bars", months);
        pair.call("mend", months, -1);
        pair.call("shut", months);
        for (int i = 0; i < things; i++) {
            pair.call("mend", months, i);
        }
        for (int i = 0; i < windows; i++) {
            pair.call("third", months, i);
        }
        for (int what = 0; what < 3; what++) {
            pair.call("best", months, what);
            pair.call("fewest", months, what);
        }
        for (int i = 0; i < things; i++) {
            pair.call("paint", months, i);
        }
        if (random.nextInt(4) == 0) {
            pair.call("take", months);
        }
    }
}
