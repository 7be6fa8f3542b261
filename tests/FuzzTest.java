import java.util.Random;

/** Random runs of calls, answered by the program and by the plain Oracle: for all promises together. */
public final class FuzzTest {
    private final Random random;
    private final Texts texts;
    private final Pair pair = new Pair();
    private final int mostThings;

    private FuzzTest(long seed) {
        random = new Random(seed);
        texts = new Texts(random);
        int n = random.nextInt(20);
        mostThings = n == 0 ? 10 : n < 4 ? 8 : 1 + random.nextInt(6);
    }

    public static void main(String[] args) {
        long from = args.length > 0 ? Long.parseLong(args[0]) : 1;
        long runs = args.length > 1 ? Long.parseLong(args[1]) : 1500;
        int wrong = 0;
        for (long seed = from; seed < from + runs && wrong < 3; seed++) {
            FuzzTest test = new FuzzTest(seed);
            test.go();
            if (test.pair.wrong) {
                wrong++;
                System.out.println("seed " + seed);
            }
        }
        if (wrong > 0) {
            System.exit(1);
        }
    }

    private void go() {
        int calls = 20 + random.nextInt(120);
        int kind = random.nextInt(4);
        boolean goesBack = random.nextInt(3) == 0;
        int town = random.nextInt(3);
        if (town == 0) {
            fill();
        } else if (town == 1 && kind != 1) {
            fillNarrow();
            for (int i = 0; i < 10; i++) {
                askPaintings();
            }
        }
        for (int i = 0; i < 12; i++) {
            build();
        }
        for (int i = 0; i < calls && !pair.wrong && pair.run.size() < 500; i++) {
            if (goesBack && random.nextInt(4) == 0) {
                pair.call(random.nextBoolean() ? "image" : "back", random.nextInt(2));
            }
            int n = random.nextInt(10);
            if (n == 0) {
                odd();
            } else if (n < 4) {
                build();
            } else if (n == 4) {
                write();
            } else if (kind == 0 || kind == 3 && random.nextBoolean()) {
                askPaintings();
            } else if (kind == 1) {
                askWays();
            } else {
                askSights();
            }
        }
    }

    /** A town in which much is seen, so that LIMITS matter. */
    private void fill() {
        int things = Math.max(mostThings - 1, 2);
        for (int i = 0; i < things; i++) {
            pair.call("thing", upTo(3), upTo(7), upTo(7), upTo(9), upTo(12));
            if (random.nextInt(4) == 0) {
                pair.call("put", i, 5, 1);
            }
            if (random.nextInt(4) == 0) {
                pair.call("bloom", i, upTo(4095), upTo(7));
            }
        }
        for (int i = 2 + random.nextInt(5); i > 0; i--) {
            pair.call("window", upTo(1023) | upTo(1023), upTo(1023), upTo(12));
        }
        for (int i = 2 + random.nextInt(3); i > 0; i--) {
            pair.call("person", upTo(7));
        }
        for (int i = random.nextInt(15); i > 0; i--) {
            pair.call("walk", random.nextInt(pair.count(2)), upTo(random.nextBoolean() ? 119 : 9), upTo(9));
        }
        for (int i = 6 + random.nextInt(12); i > 0; i--) {
            pair.call("street", upTo(9), upTo(9), 1);
        }
        int n = random.nextInt(5);
        if (n > 0) {
            pair.law(texts.tightLaw());
            pair.call("force", 0);
        }
    }

    /** WINDOWS that each look at a few THINGS and may see one colour or two: several bar together. */
    private void fillNarrow() {
        int things = 3 + random.nextInt(4);
        int colours = 1 + random.nextInt(3);
        for (int i = 0; i < things; i++) {
            pair.call("thing", upTo(3), upTo(colours), upTo(colours), upTo(9), upTo(12));
            if (random.nextInt(3) == 0) {
                pair.call("put", i, 5, 1);
            }
            if (random.nextInt(5) == 0) {
                pair.call("bloom", i, upTo(4095), upTo(colours));
            }
        }
        for (int i = 3 + random.nextInt(5); i > 0; i--) {
            int one = random.nextInt(things);
            int other = random.nextInt(things);
            int more = random.nextInt(3) == 0 ? 1 << random.nextInt(things) : 0;
            pair.call("window", 1 << one | 1 << other | more, 0, upTo(9));
        }
        pair.law(random.nextBoolean() ? "limit 1" : "limit 1+window/" + (2 + random.nextInt(4)));
        pair.call("force", 0);
    }

    private int upTo(int n) {
        return random.nextInt(n + 1);
    }

    private int wild(int n) {
        int k = random.nextInt(60);
        if (k == 0) {
            return -1;
        }
        if (k == 1) {
            return n + 1;
        }
        if (k == 2) {
            return random.nextInt();
        }
        return upTo(n);
    }

    private int price() {
        return random.nextInt(3) == 0 ? wild(99) : upTo(6);
    }

    private int months() {
        int n = random.nextInt(40);
        if (n == 0) {
            return wild(4095) - 1;
        }
        return n < 15 ? 1 << random.nextInt(12) : n < 20 ? 4095 : 1 + random.nextInt(4095);
    }

    private int oneMonth = 1;

    /** Mostly the months asked before, so that what is kept is used. */
    private int asked() {
        if (random.nextInt(3) == 0) {
            oneMonth = months();
        }
        return oneMonth;
    }

    private int some(int what, int most) {
        int n = pair.count(what);
        return random.nextInt(25) == 0 ? wild(most) : n == 0 ? 0 : random.nextInt(n);
    }

    private int bits() {
        return wild(1023) | (random.nextBoolean() ? random.nextInt(1024) : 0);
    }

    private void build() {
        switch (random.nextInt(16)) {
            case 0: case 1: case 2:
                if (pair.count(0) < mostThings || random.nextInt(40) == 0 && mostThings > 8) {
                    pair.call("thing", wild(3), wild(7), wild(7), price(), price());
                }
                break;
            case 3: {
                int what = wild(5);
                int highest = what == 0 ? 3 : what < 3 ? 7 : what < 5 ? 12 : 1;
                pair.call("put", some(0, 9), what, wild(highest));
                break;
            }
            case 4:
                pair.call("bloom", some(0, 9), random.nextBoolean() ? wild(4095) : 1 << random.nextInt(12), wild(7));
                break;
            case 5: case 6:
                pair.call("window", bits(), bits(), price());
                break;
            case 7: {
                int what = wild(2);
                pair.call("turn", some(1, 7), what, what == 2 ? wild(99) : wild(1023));
                break;
            }
            case 8: case 9: {
                pair.call("street", wild(9), wild(9), random.nextInt(5) == 0 ? wild(1) : 1);
                break;
            }
            case 10:
                pair.call("person", wild(7));
                break;
            case 11:
                pair.call("coat", some(2, 4), wild(7));
                break;
            case 12:
                pair.call("same", wild(7), wild(7), wild(1));
                break;
            case 13:
                pair.call("month", wild(11));
                break;
            default:
                pair.call("walk", some(2, 4), wild(119), random.nextInt(6) == 0 ? -1 : wild(9));
                break;
        }
        if (random.nextInt(3) == 0) {
            pair.call("status");
        }
    }

    private void odd() {
        switch (random.nextInt(9)) {
            case 0: pair.call("image", wild(1)); break;
            case 1: pair.call("back", wild(1)); break;
            case 2: pair.call("count", wild(13)); break;
            case 3: pair.call("of", some(0, 9), wild(8)); break;
            case 4: pair.call("counts", wild(7)); break;
            case 5: pair.call("take", asked()); break;
            case 6: pair.call("spoilt"); break;
            case 7: pair.call("force", random.nextInt(4) == 0 ? wild(6) : some(3, 5)); break;
            default: pair.call("status"); break;
        }
    }

    private void write() {
        int n = random.nextInt(10);
        if (n < 4) {
            pair.law(texts.law());
            pair.call("fault");
            pair.call("force", pair.count(3) - 1);
        } else if (n < 7) {
            pair.law(texts.spoiltLaw());
            pair.call("fault");
        } else if (n < 9) {
            StringBuilder row = new StringBuilder();
            for (int i = random.nextInt(12); i > 0; i--) {
                row.append((char) wild8(4)).append((char) wild8(119));
                row.append((char) (random.nextInt(5) == 0 ? 255 : wild8(9)));
            }
            row.setLength(Math.max(0, row.length() - (random.nextInt(4) == 0 ? random.nextInt(3) : 0)));
            pair.tape(row.toString());
            pair.call("row");
            pair.call("spoilt");
        } else {
            pair.call("feed", random.nextInt(), random.nextInt(), random.nextInt(), random.nextInt(), random.nextInt());
            pair.call("end", wild(60));
            pair.call(random.nextBoolean() ? "law" : "row");
            pair.call("fault");
        }
    }

    private int wild8(int n) {
        return random.nextInt(15) == 0 ? random.nextInt(256) : upTo(n);
    }

    private void askPaintings() {
        switch (random.nextInt(9)) {
            case 0: pair.call("best", asked(), wild(2)); break;
            case 1: pair.call("paint", asked(), some(0, 9)); break;
            case 2: pair.call("fewest", asked(), wild(2)); break;
            case 3: pair.call("mend", asked(), random.nextInt(3) == 0 ? -1 : some(0, 9)); break;
            case 4: pair.call("shut", asked()); break;
            case 5: pair.call("bars", asked()); break;
            case 6: pair.call("third", asked(), some(1, 7)); break;
            case 7: pair.call("costs", some(0, 9), wild(7)); break;
            default: pair.call("near", wild(2)); break;
        }
    }

    private void askSights() {
        switch (random.nextInt(6)) {
            case 0: pair.call("sees", some(1, 7), wild(119), wild(2)); break;
            case 1: pair.call("judge", wild(2)); break;
            case 2: pair.call("bad", some(1, 7)); break;
            case 3: pair.call("where", some(2, 4), wild(119)); break;
            case 4: pair.call("near", wild(2)); break;
            default: pair.call("sees", some(1, 7), wild(119), 0); break;
        }
    }

    private void askWays() {
        int person = some(2, 4);
        int minute = random.nextBoolean() ? upTo(20) : wild(119);
        int from = wild(9);
        int to = wild(9);
        switch (random.nextInt(4)) {
            case 0:
                pair.call("soon", person, minute, from, to);
                break;
            case 1: {
                int soonest = pair.call("soon", person, minute, from, to);
                for (int at = minute - 1; at <= soonest + 1 && at < minute + 10; at++) {
                    pair.call("way", person, minute, from, to, at);
                }
                break;
            }
            case 2:
                pair.call("file", wild(7) + 1, wild(7) + 1, random.nextBoolean() ? -1 : some(2, 5));
                break;
            default:
                pair.call("day", random.nextInt(9) == 0 ? wild(1000000) : upTo(1000000));
                pair.call("drawn", some(2, 4), wild(119));
                break;
        }
    }
}
