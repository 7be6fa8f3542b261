import java.util.function.Supplier;

/** Part III of the terms but for NEAR, and promises 27 to 34. */
final class PaintBounds {
    private static final int ALL = 4095;
    private static final int[] MONTHS = {1, ALL};

    private PaintBounds() {
    }

    static void all() {
        walks();
        choices();
        goodOnes();
        values();
        firsts();
        leasts();
        mended();
        barring();
        thirds();
        best();
        paint();
        fewest();
        take();
        mend();
        shut();
        bars();
        third();
    }

    private static void walks() {
        Bound.by("III", "WALKS, 60 at most: from a MINUTE on one is at a PLACE, or at home (NONE), till another of its WALKS (of the same "
                + "MINUTE the one told last); at first all are at home.");
        ThreeColours town = new ThreeColours();
        town.person(0);
        town.person(1);
        Bound.due("at home at 0", town.where(1, 0), -1);
        Bound.due("at home at 119", town.where(1, 119), -1);
        town.walk(1, 60, 4);
        town.walk(0, 70, 9);
        Bound.due("at home till 59", town.where(1, 59), -1);
        Bound.due("from 60 on", town.where(1, 60), 4);
        Bound.due("till the end, whatever others do", town.where(1, 119), 4);
        town.walk(1, 80, -1);
        Bound.due("till another walk", town.where(1, 79), 4);
        Bound.due("home again", town.where(1, 80), -1);
        town.walk(1, 60, 5);
        town.walk(1, 80, 6);
        Bound.due("the one told last of minute 60", town.where(1, 60), 5);
        Bound.due("the one told last of minute 80", town.where(1, 80), 6);
        town.walk(1, 80, -1);
        Bound.due("home is told last", town.where(1, 119), -1);
        town.walk(1, 0, 0);
        Bound.due("minute 0, told last, till 59", town.where(1, 59), 0);
        Bound.due("not from 60 on", town.where(1, 60), 5);
        while (town.count(4) < 60) {
            town.walk(0, 0, 0);
        }
        Bound.due("a 61st", town.walk(1, 119, 9), -5);
        Bound.due("it did not come", town.where(1, 119), -1);
        Bound.due("sixty", town.count(4), 60);
    }

    private static int ways(int colour, int wished, int must) {
        ThreeColours town = new ThreeColours();
        town.thing(0, colour, wished, 1, 1);
        town.put(0, 5, must);
        return town.best(1, 2);
    }

    private static void choices() {
        Bound.by("III", "A PAINTING gives each THING a choice: 0 its COLOUR as it is; 1 WISHED, if that is another one; 2 GREY, if that is "
                + "another one than both.");
        for (int colour = 0; colour < 8; colour++) {
            for (int wished = 0; wished < 8; wished++) {
                int due = 1 + (wished != colour ? 1 : 0) + (colour != 0 && wished != 0 ? 1 : 0);
                Bound.due("of colour " + colour + ", wished " + wished, ways(colour, wished, 0), due);
            }
        }
        ThreeColours town = new ThreeColours();
        Bound.due("no thing: one painting", town.best(1, 2), 1);
        for (int i = 1; i <= 10; i++) {
            town.thing(0, 1, 2, 0, 0);
            Bound.due(i + " things", town.best(1, 2), (int) Math.pow(3, i));
        }

        Bound.by("III", "One that MUST has its WISHED colour.");
        for (int colour = 0; colour < 8; colour++) {
            for (int wished = 0; wished < 8; wished += 7) {
                Bound.due("must, of colour " + colour + ", wished " + wished, ways(colour, wished, 1), 1);
                town = new ThreeColours();
                town.thing(0, colour, wished, 99, 0);
                town.put(0, 5, 1);
                Bound.due("it has it in the first", town.paint(1, 0), wished);
                Bound.due("and mended", town.mend(1, 0), wished);
                Bound.due("painted, if it has not", town.fewest(1, 1), colour == wished ? 0 : 1);
            }
        }
        town.put(0, 5, 0);
        Bound.due("it need not any more", town.best(1, 2), 2);
    }

    private static void goodOnes() {
        Bound.by("III", "It is GOOD for MONTHS, if in each of them every WINDOW HOLDS at MINUTE 0 with nobody out.");
        // THING 9 alone is seen, and in MONTH 11 not grey, or not of its colour.
        for (int month = 0; month < 12; month++) {
            ThreeColours town = Due.under("limit 0;limit 8 if month<" + month + " or month>" + month + ";hidden if colour=0");
            for (int i = 0; i < 10; i++) {
                town.thing(0, 1, 1, 0, 0);
                town.put(i, 5, i < 9 ? 1 : 0);
            }
            for (int i = 0; i < 8; i++) {
                town.window(i == 7 ? 1 << 9 : 0, 1023, 0);
            }
            Bound.due("in month " + month, town.best(1 << month, 2), 1);
            Bound.due("in all but month " + month, town.best(ALL - (1 << month), 2), 2);
            Bound.due("in all", town.best(ALL, 2), 1);
            Bound.due("the month itself does not matter", town.month(11 - month) >= 0 ? town.best(1 << month, 2) : -9, 1);
        }
        ThreeColours town = Due.under("limit 1 if minute=0;limit 0 if minute=1");
        town.thing(0, 1, 1, 0, 0);
        town.thing(0, 2, 2, 0, 0);
        town.window(1, 1023, 0);
        town.person(3);
        town.walk(0, 0, 0);
        Bound.due("at minute 0 with nobody out", town.best(1, 2), 4);
        town.turn(0, 0, 3);
        Bound.due("one colour more", town.best(1, 2), 1);
        for (String head : new String[] {"hidden", "free"}) {
            town = Due.under("limit 1;" + head + " if thing=month");
            town.thing(0, 1, 1, 0, 0);
            town.thing(0, 2, 2, 0, 0);
            town.window(3, 0, 0);
            Bound.due(head + " in month 0", town.best(1, 2), 4);
            Bound.due(head + " in month 1", town.best(2, 2), 4);
            Bound.due(head + " in neither", town.best(4, 2), 1);
            Bound.due(head + " in one of two", town.best(5, 2), 1);
            Bound.due(head + " in either", town.best(3, 2), 4);
            town = Due.under("limit 1;" + head + " if minute=0 and thing=0");
            town.thing(0, 1, 1, 0, 0);
            town.thing(0, 2, 2, 0, 0);
            town.window(3, 0, 0);
            Bound.due(head + " at minute 0", town.best(1, 2), 4);
            town = Due.under("limit 1;" + head + " if minute=1 and thing=0");
            town.thing(0, 1, 1, 0, 0);
            town.thing(0, 2, 2, 0, 0);
            town.window(3, 0, 0);
            Bound.due(head + " at minute 1", town.best(1, 2), 1);
        }
        for (int thing = 0; thing < 10; thing++) {
            for (int colour = 0; colour < 3; colour++) {
                inOneMonth(thing, colour);
            }
        }
        for (int limit = 0; limit <= 8; limit++) {
            town = Due.under("limit " + limit);
            for (int i = 0; i < 8; i++) {
                town.thing(0, i, i, 0, 0);
                town.put(i, 5, 1);
            }
            town.window(255, 0, 0);
            Bound.due("eight colours, limit " + limit, town.best(ALL, 2), limit == 8 ? 1 : 0);
            town.turn(0, 0, (1 << limit) - 1);
            Bound.due("as many as the limit " + limit, town.best(ALL, 2), 1);
        }
    }

    /** One THING may not have one of its three colours in MONTH 10, another one may not have the next in MONTH 11. */
    private static void inOneMonth(int thing, int colour) {
        int next = (colour + 1) % 3;
        int other = (thing + 1) % 10;
        String law = "limit 0;free if not (month=10 and thing=" + thing + " and colour=" + colour + " or month=11 and thing=";
        String what = "thing " + thing + ", colour " + colour;
        ThreeColours town = alikeThings(law + other + " and colour=" + next + ")");
        Bound.due(what + ", in neither", town.best(1023, 2), 59049);
        Bound.due(what + ", in month 10", town.best(1 << 10, 2), 59049 / 3 * 2);
        Bound.due(what + ", in month 11", town.best(1 << 11, 2), 59049 / 3 * 2);
        Bound.due(what + ", in both", town.best(ALL, 2), 59049 / 9 * 4);
        Bound.due(what + ", what the first has", town.paint(ALL, thing), colour == 1 ? 2 : 1);
        Bound.due(what + ", what the next has", town.paint(ALL, other), next == 1 ? 2 : 1);
        Bound.due(what + ", mended", town.mend(ALL, -1), colour == 2 ? 0 : 1);
        Bound.due(what + ", mended: the first", town.mend(ALL, thing), colour == 1 ? 2 : 1);
        town = alikeThings(law + thing + " and colour=" + next + ")");
        int left = 3 - colour - next;
        Bound.due(what + ", the third is left", town.best(ALL, 2), 59049 / 3);
        Bound.due(what + ", it has that", town.paint(ALL, thing), left);
        Bound.due(what + ", and mended", town.mend(ALL, thing), left);
    }

    private static ThreeColours alikeThings(String law) {
        ThreeColours town = Due.under(law);
        for (int i = 0; i < 10; i++) {
            town.thing(0, 1, 2, 1, 0);
        }
        town.window(1023, 0, 99);
        return town;
    }

    private static void values() {
        Bound.by("III", "Its VALUE: WORTH of all that have their WISHED colours, less what painting costs (of choices that are not 0).");
        ThreeColours town = new ThreeColours();
        Bound.due("nothing", town.best(1, 1), 0);
        for (int i = 1; i <= 10; i++) {
            town.thing(0, 1, 1, 99, 99);
            Bound.due("worth of " + i + " that have it", town.best(1, 1), 99 * i);
        }
        Bound.due("one way", town.best(1, 0), 1);
        for (int i = 0; i < 10; i++) {
            town.put(i, 1, 2);
        }
        Bound.due("worth 99 at 99, or as they are", town.best(1, 1), 0);
        Bound.due("each is worth it and not", town.best(1, 0), 1024);
        for (int i = 0; i < 10; i++) {
            town.put(i, 4, 0);
            town.put(i, 5, 1);
        }
        Bound.due("the lowest value", town.best(1, 1), -990);
        for (int i = 0; i < 10; i++) {
            town.put(i, 4, 99);
            town.put(i, 3, 0);
        }
        Bound.due("the highest value", town.best(1, 1), 990);
        town = new ThreeColours();
        town.thing(0, 1, 2, 9, 10);
        Bound.due("one more than it costs", town.best(1, 1), 1);
        Bound.due("painted", town.paint(1, 0), 2);
        town.put(0, 4, 9);
        Bound.due("what it costs", town.best(1, 1), 0);
        Bound.due("either way", town.best(1, 0), 2);
        town.put(0, 4, 8);
        Bound.due("less than it costs", town.best(1, 1), 0);
        Bound.due("not painted", town.best(1, 0), 1);
        for (int colour = 0; colour < 8; colour++) {
            for (int wished = 0; wished < 8; wished++) {
                eachColour(colour, wished);
            }
        }
    }

    /** A colour costs 20 less its number; in the second town none but grey may be seen. */
    private static void eachColour(int colour, int wished) {
        String what = "of colour " + colour + ", wished " + wished;
        ThreeColours town = Due.under("cost 20-colour");
        town.thing(0, colour, wished, 99, 30);
        town.window(1, 0, 99);
        Bound.due(what, town.best(1, 1), colour == wished ? 30 : 10 + wished);
        town.put(0, 5, 1);
        Bound.due(what + ", as it must", town.best(1, 1), colour == wished ? 30 : 10 + wished);
        Bound.due(what + ", mended", town.mend(1, -1), colour == wished ? 0 : 20 - wished);
        town = Due.under("limit 0;free if colour=0;cost 20-colour");
        town.thing(0, colour, wished, 99, 30);
        town.window(1, 0, 99);
        int grey = wished != 0 ? colour == 0 ? 0 : -20 : colour == 0 ? 30 : 10;
        Bound.due(what + ", but grey", town.best(1, 1), grey);
        Bound.due(what + ", mended grey", town.mend(1, -1), colour == 0 ? 0 : 20);
        Bound.due(what + ", mended to grey", town.mend(1, 0), 0);
        town.put(0, 5, 1);
        Bound.due(what + ", as it must or not at all", town.best(1, 1), wished == 0 ? grey : -10_000);
        Bound.due(what + ", walled up", town.shut(1), wished == 0 ? 0 : 1);
    }

    private static void firsts() {
        Bound.by("III", "BEST: GOOD ones with the greatest VALUE; the FIRST of some: as a row of choices by THINGS, lower ones ahead.");
        ThreeColours town = new ThreeColours();
        for (int i = 0; i < 10; i++) {
            town.thing(0, 1, 2, 0, 0);
        }
        Bound.due("all are best", town.best(1, 0), 59049);
        for (int i = 0; i < 10; i++) {
            Bound.due("choice 0 ahead", town.paint(1, i), 1);
        }
        // One colour in all: all as they are can't be, so that each of two may give way.
        town = Due.under("limit 1;hidden if thing>1;cost 0");
        town.thing(0, 1, 2, 0, 5);
        town.thing(0, 2, 1, 0, 5);
        town.window(3, 0, 0);
        Bound.due("two ways", town.best(1, 0), 2);
        Bound.due("thing 0 as it is", town.paint(1, 0), 1);
        Bound.due("thing 1 painted", town.paint(1, 1), 1);
        town = Due.under("limit 0;free if colour=0;free if colour=2;cost 0");
        town.thing(0, 1, 2, 0, 0);
        town.window(1, 0, 0);
        Bound.due("wished or grey", town.best(1, 0), 2);
        Bound.due("choice 1 ahead of 2", town.paint(1, 0), 2);
    }

    private static void leasts() {
        Bound.by("III", "FEWEST GREY: of all GOOD ones the fewest THINGS that are GREY; FEWEST PAINTED likewise those with a choice that is "
                + "not 0; LEAST OFF those without their WISHED colour.");
        for (int n = 0; n <= 10; n++) {
            ThreeColours town = new ThreeColours();
            for (int i = 0; i < n; i++) {
                town.thing(0, 0, 0, 0, 0);
            }
            Bound.due(n + " grey ones", town.fewest(1, 0), n);
            Bound.due("none painted", town.fewest(1, 1), 0);
            Bound.due("none off", town.fewest(1, 2), 0);
        }
        for (int n = 0; n <= 10; n++) {
            ThreeColours town = Due.under("limit 0;free if colour=0;hidden if thing>" + n + "-1");
            for (int i = 0; i < 10; i++) {
                town.thing(0, 1, 1, 0, 0);
            }
            town.window(1023, 0, 0);
            Bound.due(n + " must be grey", town.fewest(ALL, 0), n);
            Bound.due(n + " must be painted", town.fewest(ALL, 1), n);
            Bound.due(n + " must be off", town.fewest(ALL, 2), n);
            for (int i = 0; i < 10; i++) {
                town.put(i, 1, 0);
            }
            Bound.due("grey already: so many stay so", town.fewest(ALL, 0), n);
            Bound.due("none must be painted", town.fewest(ALL, 1), 0);
            Bound.due("so many are off", town.fewest(ALL, 2), n);
        }
        ThreeColours town = Due.under("limit 0;free if colour=0");
        for (int i = 0; i < 10; i++) {
            town.thing(0, 1, 2, 99, 99);
        }
        town.window(1023, 0, 0);
        Bound.due("all must be grey", town.fewest(ALL, 0), 10);
        Bound.due("all are painted", town.fewest(ALL, 1), 10);
        Bound.due("all are off", town.fewest(ALL, 2), 10);
        town.turn(0, 0, 0);
        Bound.due("none need be grey", town.fewest(ALL, 0), 0);
        Bound.due("none need be painted", town.fewest(ALL, 1), 0);
        Bound.due("none need be off", town.fewest(ALL, 2), 0);
    }

    private static void mended() {
        Bound.by("III", "MENDED: a PAINTING, GOOD or not (MUST as told), and each WINDOW that does not HOLD in one of the MONTHS walled up: "
                + "what painting and SHUT cost together, at the least; the FIRST of those.");
        ThreeColours town = Due.under("limit 0");
        for (int i = 0; i < 10; i++) {
            town.thing(0, 1, 2, 99, 0);
            town.put(i, 5, 1);
        }
        for (int i = 0; i < 8; i++) {
            town.window(1023, 0, 99);
        }
        Bound.due("the dearest there is", town.mend(ALL, -1), 990 + 792);
        Bound.due("all walled up", town.shut(ALL), 255);
        for (int i = 0; i < 10; i++) {
            town.put(i, 5, 0);
        }
        Bound.due("walls alone", town.mend(ALL, -1), 792);
        town = Due.under("limit 8;limit 0 if month=11 and window=7;free if colour=0");
        town.thing(0, 1, 2, 50, 0);
        for (int i = 0; i < 8; i++) {
            town.window(1, 0, 50);
        }
        Bound.due("in month 11 alone", town.mend(ALL, -1), 50);
        Bound.due("grey or walled up: the first leaves the thing", town.mend(ALL, 0), 1);
        Bound.due("window 7", town.shut(ALL), 128);
        Bound.due("in the other months nothing", town.mend(ALL - 2048, -1), 0);
        Bound.due("no window", town.shut(ALL - 2048), 0);
        town.turn(7, 2, 51);
        Bound.due("one more: grey", town.mend(ALL, 0), 0);
        Bound.due("at 50", town.mend(ALL, -1), 50);
        Bound.due("no window", town.shut(ALL), 0);
        town.turn(7, 2, 49);
        Bound.due("one less: a wall", town.mend(ALL, -1), 49);
        // A wall for 11, or paint for 5 and another wall for 6.
        town = Due.under("limit 1");
        town.thing(0, 1, 2, 5, 0);
        town.thing(0, 2, 2, 99, 0);
        town.thing(0, 1, 1, 99, 0);
        town.window(0b011, 0, 11);
        town.window(0b101, 0, 6);
        Bound.due("either way", town.mend(ALL, -1), 11);
        Bound.due("the first leaves thing 0", town.mend(ALL, 0), 1);
        Bound.due("and walls up window 0", town.shut(ALL), 1);
        town.turn(0, 2, 12);
        Bound.due("one more: paint and a wall", town.mend(ALL, -1), 11);
        Bound.due("thing 0 is painted", town.mend(ALL, 0), 2);
        Bound.due("window 1", town.shut(ALL), 2);
        town = Due.under("cost 0");
        town.thing(0, 1, 2, 5, 99);
        Bound.due("all for nothing: the first leaves it", town.mend(ALL, 0), 1);
        town.window(1, 0, 0);
        Bound.due("so with a window that holds", town.mend(ALL, 0), 1);
        town = Due.under("limit 1;cost 1");
        for (int i = 0; i < 10; i++) {
            town.thing(0, i == 0 ? 2 : 1, i == 0 ? 1 : 2, 0, 0);
        }
        town.window(1023, 0, 2);
        Bound.due("one painted makes ten alike", town.mend(ALL, -1), 1);
        Bound.due("thing 0", town.mend(ALL, 0), 1);
        Bound.due("no wall", town.shut(ALL), 0);
        town.put(9, 1, 2);
        Bound.due("two painted, or a wall", town.mend(ALL, -1), 2);
        Bound.due("the first leaves thing 0", town.mend(ALL, 0), 2);
        Bound.due("a wall", town.shut(ALL), 1);
    }

    private static void barring() {
        Bound.by("III", "BARRING, if there is no GOOD one: all WINDOWS at first; from the first on each is left out, if there is none without "
                + "it either.");
        for (int n = 1; n <= 8; n++) {
            ThreeColours town = Due.under("limit 0");
            town.thing(0, 1, 1, 0, 0);
            for (int i = 0; i < n; i++) {
                town.window(1, 0, 0);
            }
            Bound.due("of " + n + " alike the last", town.bars(ALL), 1 << n - 1);
            town.turn(n - 1, 0, 0);
            Bound.due("of " + n + " the last but one", town.bars(ALL), n == 1 ? 0 : 1 << n - 2);
        }
        // WINDOWS 0, 3 and 7 forbid one choice each: only together they bar.
        ThreeColours town = Due.under("limit 0;free if not (window=0 and colour=1 or window=3 and colour=2 or window=7 and colour=0)");
        town.thing(0, 1, 2, 0, 0);
        for (int i = 0; i < 8; i++) {
            town.window(1, 0, 0);
        }
        Bound.due("three together", town.bars(ALL), 1 << 0 | 1 << 3 | 1 << 7);
        town.put(0, 5, 1);
        Bound.due("what must be is barred by one", town.bars(ALL), 1 << 3);
        town.turn(3, 0, 0);
        Bound.due("without it there is a good one", town.bars(ALL), 0);
        town = Due.under("limit 0;free if colour=0;free if window=0 and colour=2;free if window=1 and colour=1");
        town.thing(0, 1, 2, 0, 0);
        town.put(0, 5, 1);
        for (int i = 0; i < 8; i++) {
            town.window(i < 2 ? 1 : 0, 0, 0);
        }
        Bound.due("window 1 alone bars what must be", town.bars(1), 2);
    }

    private static void thirds() {
        Bound.by("III", "The THIRD of a WINDOW: how much more VALUE is BEST, if its LIMIT is one more.");
        for (int limit = 0; limit <= 8; limit++) {
            ThreeColours town = Due.under("limit " + limit + ";free if colour=0");
            for (int i = 0; i < 8; i++) {
                town.thing(0, i, i, 0, i == 0 ? 0 : 10 + i);
            }
            for (int i = 0; i < 8; i++) {
                town.window(i == 7 ? 255 : 0, 0, 0);
            }
            int more = limit < 7 ? 10 + 7 - limit : 0;
            Bound.due("limit " + limit + ", the next of seven", town.third(ALL, 7), more);
            Bound.due("limit " + limit + ", of a window that sees nothing", town.third(ALL, 0), 0);
        }
        ThreeColours town = Due.under("limit 0-5;free if colour=0");
        town.thing(0, 1, 1, 99, 99);
        town.window(1, 0, 0);
        Bound.due("one more than the nearest of -5", town.third(1, 0), 198);
        for (int i = 1; i < 8; i++) {
            town.window(0, 0, 0);
        }
        for (int i = 1; i < 8; i++) {
            town.turn(i, 0, 1);
            Bound.due("windows 0 and " + i + " see it: no more by one of them", town.third(1, 0), 0);
            Bound.due("nor by the other one", town.third(1, i), 0);
            town.turn(i, 0, 0);
        }
        town = Due.under("limit 2;limit 0 if month=11;free if colour=0");
        town.thing(0, 1, 1, 0, 9);
        town.window(1, 0, 0);
        Bound.due("one more in month 11", town.third(ALL, 0), 9);
        Bound.due("without month 11 nothing", town.third(ALL - 2048, 0), 0);
    }

    private static void best() {
        Bound.by(27, "BEST for MONTHS (1 .. 4095 as bits): how many (what 0), the VALUE (1), how many are GOOD at all (2).");
        ThreeColours town = new ThreeColours();
        for (int months : MONTHS) {
            Bound.due("nothing: how many", town.best(months, 0), 1);
            Bound.due("nothing: the value", town.best(months, 1), 0);
            Bound.due("nothing: good", town.best(months, 2), 1);
        }
        for (int i = 0; i < 10; i++) {
            town.thing(0, 1, 2, 0, 0);
        }
        for (int months : new int[] {1, 2048, ALL}) {
            Bound.due("ten: how many", town.best(months, 0), 59049);
            Bound.due("ten: the value", town.best(months, 1), 0);
            Bound.due("ten: good", town.best(months, 2), 59049);
        }
        town.put(9, 4, 1);
        Bound.due("the last has its wish: how many", town.best(ALL, 0), 19683);
        Bound.due("the value", town.best(ALL, 1), 1);

        Bound.by(27, "NOTHING (-10,000) without (0 for how many).");
        town = TownBounds.hopeless();
        for (int months : MONTHS) {
            Bound.due("none good: how many", town.best(months, 0), 0);
            Bound.due("none good: the value", town.best(months, 1), -10_000);
            Bound.due("none good: good", town.best(months, 2), 0);
        }
        for (int what = 0; what < 3; what++) {
            Bound.asks("best", Towns::busy, new int[] {4, what}, new int[][] {MONTHS, null}, -10_000, (it, n) -> it.best(n[0], n[1]));
            Bound.leaves("an empty town, no month", Towns::empty, -10_000, it -> it.best(0, 0));
        }
        Bound.asks("best", Towns::busy, new int[] {4, 0}, new int[][] {null, {0, 2}}, -10_000, (it, n) -> it.best(n[0], n[1]));
        Bound.asks("best", Towns::full, new int[] {4, 0}, new int[][] {MONTHS, {0, 2}}, -10_000, (it, n) -> it.best(n[0], n[1]));
    }

    private static void paint() {
        Bound.by(28, "The colour of a THING in the FIRST of BEST.");
        ThreeColours town = new ThreeColours();
        for (int i = 0; i < 10; i++) {
            town.thing(0, i % 8, 7 - i % 8, 0, i == 9 ? 0 : 1);
        }
        for (int i = 0; i < 10; i++) {
            Bound.due("thing " + i, town.paint(ALL, i), i == 9 ? 1 : 7 - i % 8);
        }
        Bound.due("nothing is painted by asking", town.of(0, 1), 0);

        Bound.by(28, "NONE.");
        Bound.asks("paint", Towns::busy, new int[] {4, 1}, new int[][] {MONTHS, {0, 3}}, -1, (it, n) -> it.paint(n[0], n[1]));
        Bound.asks("paint", Towns::full, new int[] {4, 1}, new int[][] {MONTHS, {0, 9}}, -1, (it, n) -> it.paint(n[0], n[1]));
        Bound.leaves("thing 0 of none", Towns::empty, -1, it -> it.paint(1, 0));
        Bound.leaves("none good", TownBounds::hopeless, -1, it -> it.paint(1, 0));
    }

    private static void fewest() {
        Bound.by(29, "FEWEST GREY (what 0), FEWEST PAINTED (1), LEAST OFF (2).");
        ThreeColours town = Due.under("limit 1");
        town.thing(0, 1, 2, 0, 0);
        town.thing(0, 3, 2, 0, 0);
        town.thing(0, 4, 4, 0, 0);
        town.put(2, 5, 1);
        town.window(3, 0, 0);
        Bound.due("grey: both wished", town.fewest(2048, 0), 0);
        Bound.due("painted: both", town.fewest(2048, 1), 2);
        Bound.due("off: none", town.fewest(2048, 2), 0);
        town.turn(0, 0, 5);
        Bound.due("there is none", town.fewest(2048, 0), -1);

        Bound.by(29, "NONE (none GOOD, too).");
        Bound.asks("fewest", Towns::busy, new int[] {4, 0}, new int[][] {MONTHS, {0, 2}}, -1, (it, n) -> it.fewest(n[0], n[1]));
        Bound.asks("fewest", Towns::empty, new int[] {4, 0}, new int[][] {MONTHS, {0, 2}}, -1, (it, n) -> it.fewest(n[0], n[1]));
        for (int what = 0; what < 3; what++) {
            int asked = what;
            Bound.leaves("none good, what " + what, TownBounds::hopeless, -1, it -> it.fewest(ALL, asked));
        }
    }

    private static void take() {
        Bound.by(30, "All THINGS are painted as in the FIRST of BEST: how many are painted.");
        ThreeColours town = new ThreeColours();
        Bound.due("nothing", town.take(1), 0);
        Bound.due("status()", town.status(), 0);
        for (int i = 0; i < 10; i++) {
            town.thing(0, 1, 2, 0, 1);
        }
        Bound.due("ten", town.take(ALL), 10);
        Bound.due("status()", town.status(), 0);
        for (int i = 0; i < 10; i++) {
            Bound.due("thing " + i, town.of(i, 1), 2);
        }
        Bound.due("none are left", town.take(ALL), 0);
        town.put(9, 2, 7);
        Bound.due("the last", town.take(2048), 1);
        Bound.due("thing 9", town.of(9, 1), 7);
        Bound.due("thing 8", town.of(8, 1), 2);

        Bound.by(30, "-1; -3 none is GOOD.");
        Bound.ends("take", Towns::busy, new int[] {4}, new int[][] {MONTHS}, (it, n) -> it.take(n[0]));
        Bound.ends("take", Towns::empty, new int[] {4}, new int[][] {MONTHS}, (it, n) -> it.take(n[0]));
        for (int months : MONTHS) {
            Bound.refused("none good for " + months, TownBounds::hopeless, -3, it -> it.take(months));
        }
        Bound.refused("none good, and no month", TownBounds::hopeless, -1, it -> it.take(0));
        Bound.refused("none good, and months too high", TownBounds::hopeless, -1, it -> it.take(4096));
        Supplier<ThreeColours> late = () -> {
            ThreeColours it = Due.under("limit 0;limit 8 if month<11");
            it.thing(0, 1, 2, 0, 1);
            it.window(1, 0, 0);
            return it;
        };
        Bound.refused("none in month 11", late, -3, it -> it.take(2048));
        Bound.refused("none in all months", late, -3, it -> it.take(ALL));
        Bound.taken("in all but that", late, it -> it.take(2047));
    }

    private static void mend() {
        Bound.by(31, "MENDED: what it costs (thing NONE), the colour of a THING.");
        ThreeColours town = Due.under("limit 0;free if colour=0");
        Bound.due("nothing costs nothing", town.mend(1, -1), 0);
        for (int i = 0; i < 10; i++) {
            town.thing(0, 1 + i % 7, 1, i == 9 ? 3 : 0, 0);
        }
        town.window(1023, 0, 4);
        Bound.due("the last costs 3", town.mend(ALL, -1), 3);
        Bound.due("it is grey", town.mend(ALL, 9), 0);
        Bound.due("the first is grey", town.mend(ALL, 0), 0);
        town.put(9, 3, 4);
        Bound.due("the wall costs as much", town.mend(ALL, -1), 4);
        Bound.due("all are as they are", town.mend(ALL, 9), 3);
        Bound.due("nothing is painted by asking", town.of(9, 1), 3);

        Bound.by(31, "NONE (it can't be: none; MONTHS).");
        Bound.asks("mend", Towns::busy, new int[] {4, -1}, new int[][] {MONTHS, {-1, 3}}, -1, (it, n) -> it.mend(n[0], n[1]));
        Bound.asks("mend", Towns::full, new int[] {4, 2}, new int[][] {MONTHS, {-1, 9}}, -1, (it, n) -> it.mend(n[0], n[1]));
        Bound.asks("mend", Towns::empty, new int[] {4, -1}, new int[][] {MONTHS, {-1, -1}}, -1, (it, n) -> it.mend(n[0], n[1]));
        Bound.holds("none good can be mended", TownBounds.hopeless().mend(1, -1) > 0);
    }

    private static void shut() {
        Bound.by(32, "MENDED: WINDOWS that are walled up, as bits.");
        ThreeColours town = Due.under("limit 0");
        Bound.due("no window", town.shut(ALL), 0);
        town.thing(0, 1, 1, 99, 0);
        for (int i = 0; i < 8; i++) {
            town.window(1, 0, 0);
            Bound.due((i + 1) + " windows", town.shut(ALL), (2 << i) - 1);
        }
        town.turn(0, 0, 0);
        Bound.due("all but the first", town.shut(ALL), 254);
        town.turn(7, 0, 0);
        Bound.due("nor the last", town.shut(ALL), 126);

        Bound.by(32, "NONE.");
        Bound.asks("shut", Towns::busy, new int[] {4}, new int[][] {MONTHS}, -1, (it, n) -> it.shut(n[0]));
        Bound.asks("shut", Towns::empty, new int[] {4}, new int[][] {MONTHS}, -1, (it, n) -> it.shut(n[0]));
    }

    private static void bars() {
        Bound.by(33, "BARRING, as bits (0: there is a GOOD one).");
        Bound.due("an empty town", new ThreeColours().bars(ALL), 0);
        ThreeColours town = Due.under("limit 0;free if colour=0");
        town.thing(0, 1, 1, 0, 0);
        for (int i = 0; i < 8; i++) {
            town.window(1, 0, 0);
        }
        Bound.due("all grey", town.bars(ALL), 0);
        town.put(0, 5, 1);
        Bound.due("the last of eight", town.bars(ALL), 128);
        Bound.due("in the last month alone", town.bars(2048), 128);

        Bound.by(33, "NONE.");
        Bound.asks("bars", Towns::busy, new int[] {4}, new int[][] {MONTHS}, -1, (it, n) -> it.bars(n[0]));
        Bound.asks("bars", TownBounds::hopeless, new int[] {4}, new int[][] {MONTHS}, -1, (it, n) -> it.bars(n[0]));
        Bound.asks("bars", Towns::empty, new int[] {4}, new int[][] {MONTHS}, -1, (it, n) -> it.bars(n[0]));
    }

    private static void third() {
        Bound.by(34, "The THIRD of a WINDOW.");
        ThreeColours town = Due.under("limit 0;free if colour=0");
        for (int i = 0; i < 10; i++) {
            town.thing(0, 1, 1, 99, 99);
        }
        for (int i = 0; i < 8; i++) {
            town.window(i == 7 ? 1023 : 0, 0, 0);
        }
        Bound.due("the most there is", town.third(ALL, 7), 1980);
        Bound.due("nothing", town.third(ALL, 0), 0);

        Bound.by(34, "NONE (none GOOD as it is, too).");
        Bound.asks("third", Towns::busy, new int[] {1, 0}, new int[][] {MONTHS, {0, 2}}, -1, (it, n) -> it.third(n[0], n[1]));
        Bound.asks("third", Towns::full, new int[] {1, 0}, new int[][] {MONTHS, {0, 7}}, -1, (it, n) -> it.third(n[0], n[1]));
        Bound.leaves("window 0 of none", Towns::empty, -1, it -> it.third(1, 0));
        Supplier<ThreeColours> barred = () -> {
            ThreeColours it = Due.under("limit 0");
            it.thing(0, 1, 1, 0, 0);
            it.window(1, 0, 0);
            return it;
        };
        Bound.leaves("none good as it is, though one more would do", barred, -1, it -> it.third(1, 0));
    }
}
