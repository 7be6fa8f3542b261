import java.util.function.Supplier;

/** Part I of the terms and promises 1 to 15. */
final class TownBounds {
    private static final int[] COLOUR = {0, 7};
    private static final int[] PRICE = {0, 99};
    private static final int[] BITS = {0, 1023};

    private TownBounds() {
    }

    static void all() {
        termsOfThings();
        termsOfTheRest();
        termsOfRefusals();
        newObject();
        thing();
        put();
        bloom();
        window();
        turn();
        of();
        street();
        person();
        coat();
        same();
        counts();
        month();
        walk();
        where();
    }

    private static void termsOfThings() {
        Bound.by("I", "COLOURS 0 (GREY) .. 7.");
        ThreeColours town = new ThreeColours();
        Bound.due("colours 0 and 7 are taken", town.thing(0, 0, 7, 0, 0), 0);
        Bound.due("colours 7 and 0 are taken", town.thing(0, 7, 0, 0, 0), 1);
        Bound.due("colour 8 is not", town.thing(0, 8, 0, 0, 0), -1);
        Bound.due("colour -1 is not", town.thing(0, -1, 0, 0, 0), -1);
        town = new ThreeColours();
        town.thing(0, 0, 0, 0, 0);
        Bound.due("0 is GREY", town.fewest(1, 0), 1);
        town.put(0, 1, 1);
        Bound.due("1 is not", town.fewest(1, 0), 0);

        Bound.by("I", "THINGS 0 .. 9 (10 at most): SORT 0 .. 3, COLOUR, WISHED, COST 0 .. 99, WORTH 0 .. 99, "
                + "MUST 1 or 0 (0 at first);");
        town = new ThreeColours();
        for (int i = 0; i < 10; i++) {
            Bound.due("thing " + i, town.thing(i == 9 ? 3 : 0, i % 8, 7, i == 9 ? 99 : 0, i == 8 ? 99 : 0), i);
            Bound.due("must of " + i, town.of(i, 5), 0);
        }
        Bound.due("an eleventh", town.thing(0, 0, 0, 0, 0), -5);
        Bound.due("there are ten", town.count(0), 10);
        Bound.due("sort 3", town.of(9, 0), 3);
        Bound.due("sort 4", town.put(9, 0, 4), -1);
        Bound.due("cost 99", town.of(9, 3), 99);
        Bound.due("cost 100", town.put(9, 3, 100), -1);
        Bound.due("worth 99", town.of(8, 4), 99);
        Bound.due("worth 100", town.put(8, 4, 100), -1);
        Bound.due("must 1", town.put(9, 5, 1), 0);
        Bound.due("must 0", town.put(9, 5, 0), 1);
        Bound.due("must 2", town.put(9, 5, 2), -1);

        Bound.by("I", "in its BLOOM (MONTHS 0 .. 11 as bits; none at first) it shows its BLOOM COLOUR, whatever it is painted.");
        town = new ThreeColours();
        town.thing(0, 1, 2, 0, 0);
        Bound.due("none at first", town.of(0, 6), 0);
        for (int month = 0; month < 12; month++) {
            town.bloom(0, 0, 6);
            town.month(month);
            Bound.due("no bloom in month " + month, town.of(0, 8), 1);
            town.bloom(0, 1 << month, 6);
            Bound.due("bloom in month " + month, town.of(0, 8), 6);
            town.put(0, 1, month % 8);
            Bound.due("whatever it is painted, in month " + month, town.of(0, 8), 6);
            town.put(0, 1, 1);
            town.month((month + 1) % 12);
            Bound.due("not in the month behind " + month, town.of(0, 8), 1);
            town.month((month + 11) % 12);
            Bound.due("not in the month ahead of " + month, town.of(0, 8), 1);
        }
        Bound.due("a month 12 as a bit", town.bloom(0, 1 << 12, 6), -1);
    }

    private static void termsOfTheRest() {
        Bound.by("I", "PLACES 0 .. 9, STREETS between two of them (none at first).");
        ThreeColours town = new ThreeColours();
        for (int one = 0; one < 10; one++) {
            for (int other = 0; other < 10; other++) {
                Bound.due("no street " + one + ", " + other, town.street(one, other, 0), one == other ? -3 : 0);
            }
        }
        Bound.due("a place 10", town.street(9, 10, 1), -1);
        Bound.due("a place -1", town.street(-1, 0, 1), -1);

        Bound.by("I", "WINDOWS 0 .. 7 (8 at most): which THINGS, which PLACES one looks at (bits; of THINGS that are not "
                + "there, too), SHUT 0 .. 99 (what it costs to wall it up).");
        town = new ThreeColours();
        for (int i = 0; i < 8; i++) {
            Bound.due("window " + i, town.window(1 << 9, 1 << 9, 99), i);
        }
        Bound.due("a ninth", town.window(0, 0, 0), -5);
        Bound.due("there are eight", town.count(1), 8);
        for (int i = 0; i < 9; i++) {
            town.thing(0, 1, 1, 0, 0);
        }
        Bound.due("thing 9 is not there", town.sees(7, 0, 0), 0);
        Bound.due("thing 9 comes", town.thing(0, 6, 6, 0, 0), 9);
        Bound.due("and is looked at", town.sees(7, 0, 0), 1 << 6);
        town.person(5);
        town.walk(0, 0, 9);
        Bound.due("place 9", town.sees(7, 0, 0), 1 << 6 | 1 << 5);
        town.walk(0, 1, 8);
        Bound.due("place 8", town.sees(7, 1, 0), 1 << 6);
        Bound.due("things as bits: 1024", town.turn(7, 0, 1024), -1);
        Bound.due("places as bits: 1024", town.turn(7, 1, 1024), -1);
        Bound.due("shut 100", town.turn(7, 2, 100), -1);
        town = Due.under("limit 0;cost 99");
        town.thing(0, 1, 1, 0, 0);
        town.window(1, 0, 99);
        Bound.due("walling up costs 99", town.mend(1, -1), 99);
        town.turn(0, 2, 0);
        Bound.due("walling up costs 0", town.mend(1, -1), 0);

        Bound.by("I", "PEOPLE 0 .. 4 (5 at most): a COAT.");
        town = new ThreeColours();
        for (int i = 0; i < 5; i++) {
            Bound.due("one of the people", town.person(7 - i), i);
        }
        Bound.due("a sixth", town.person(0), -5);
        Bound.due("there are five", town.count(2), 5);
        Bound.due("a coat of 4", town.coat(4, 7), 3);
        Bound.due("no 5", town.coat(5, 7), -2);

        Bound.by("I", "Colours that COUNT AS ONE are told by two; what counts as one with the same one counts as one, too.");
        town = new ThreeColours();
        Bound.due("none at first", town.counts(7), 7);
        town.same(7, 6, 1);
        town.same(6, 0, 1);
        Bound.due("7 by 6 with 0", town.counts(7), 0);
        Bound.due("5 is not among them", town.counts(5), 5);

        Bound.by("I", "The MONTH is 0 at first; MINUTES 0 .. 119.");
        town = new ThreeColours();
        Bound.due("the month", town.count(12), 0);
        Bound.due("was 0", town.month(11), 0);
        town.person(0);
        Bound.due("minute 0", town.walk(0, 0, 0), 1);
        Bound.due("minute 119", town.walk(0, 119, 1), 2);
        Bound.due("minute 120", town.walk(0, 120, 2), -1);
        Bound.due("minute -1", town.walk(0, -1, 2), -1);
        Bound.due("up to 118", town.where(0, 118), 0);
        Bound.due("from 119 on", town.where(0, 119), 1);
    }

    private static void termsOfRefusals() {
        Bound.by("I", "REFUSED by: -1 a number that can't be; -2 there is no such THING, WINDOW, one of the PEOPLE, LAW, IMAGE; "
                + "-3 it can't be by what stands; -5 no room; -6 a TEXT, a ROW that can't be.");
        Supplier<ThreeColours> busy = Towns::busy;
        Bound.refused("a number", busy, -1, town -> town.month(12));
        Bound.refused("no such THING", busy, -2, town -> town.put(4, 0, 0));
        Bound.refused("no such WINDOW", busy, -2, town -> town.turn(3, 0, 0));
        Bound.refused("no such one of the PEOPLE", busy, -2, town -> town.coat(3, 0));
        Bound.refused("no such LAW", busy, -2, town -> town.force(2));
        Bound.refused("no such IMAGE", busy, -2, town -> town.back(1));
        Bound.refused("by what stands", busy, -3, town -> town.street(4, 4, 1));
        Bound.refused("no room", Towns::full, -5, town -> town.thing(0, 0, 0, 0, 0));
        ThreeColours town = Towns.busy();
        town.end(0);
        Bound.due("a ROW that can't be", town.row(), -6);
        Bound.due("status()", town.status(), -6);
        Bound.due("a TEXT that can't be", Due.law(town, "x"), -6);
        Bound.due("both were counted", town.count(10), 3);

        Bound.by("I", "The first of these in that order.");
        Bound.refused("-1 ahead of -2: put", busy, -1, it -> it.put(4, 0, 4));
        Bound.refused("-1 ahead of -2: bloom", busy, -1, it -> it.bloom(4, 0, 8));
        Bound.refused("-1 ahead of -2: turn", busy, -1, it -> it.turn(3, 2, 100));
        Bound.refused("-1 ahead of -2: coat", busy, -1, it -> it.coat(3, 8));
        Bound.refused("-1 ahead of -2: walk", busy, -1, it -> it.walk(3, 0, 10));
        Bound.refused("-1 ahead of -3: street", busy, -1, it -> it.street(4, 4, 2));
        Bound.refused("-1 ahead of -3: same", busy, -1, it -> it.same(4, 4, 2));
        Bound.refused("-1 ahead of -5: thing", Towns::full, -1, it -> it.thing(0, 0, 0, 0, 100));
        Bound.refused("-1 ahead of -5: window", Towns::full, -1, it -> it.window(0, 0, 100));
        Bound.refused("-1 ahead of -5: person", Towns::full, -1, it -> it.person(8));
        Bound.refused("-1 ahead of -5: walk", Towns::full, -1, it -> it.walk(0, 120, 0));
        Bound.refused("-2 ahead of -5: walk", Towns::full, -2, it -> it.walk(5, 0, 0));
        town = Towns.full();
        town.end(0);
        Bound.due("-5 ahead of -6: law", town.law(), -5);
        Bound.refused("-1 ahead of -3: take", TownBounds::hopeless, -1, it -> it.take(0));
    }

    /** A town without a GOOD PAINTING. */
    static ThreeColours hopeless() {
        ThreeColours town = Towns.busy();
        Due.law(town, "x");
        Due.law(town, "limit 0");
        town.force(2);
        return town;
    }

    private static void newObject() {
        Bound.by(1, "No THINGS, WINDOWS, PEOPLE, LAWS.");
        for (int what = 0; what < 4; what++) {
            Bound.due("count(" + what + ")", new ThreeColours().count(what), 0);
        }
        for (int what = 0; what < 9; what++) {
            Bound.due("of(0, " + what + ")", new ThreeColours().of(0, what), -1);
        }
        Bound.refused("put", Towns::empty, -2, town -> town.put(0, 0, 0));
        Bound.refused("bloom", Towns::empty, -2, town -> town.bloom(0, 0, 0));
        Bound.refused("turn", Towns::empty, -2, town -> town.turn(0, 0, 0));
        Bound.refused("coat", Towns::empty, -2, town -> town.coat(0, 0));
        Bound.refused("walk", Towns::empty, -2, town -> town.walk(0, 0, 0));
        Bound.refused("force", Towns::empty, -2, town -> town.force(0));
        Bound.leaves("where", Towns::empty, -1, town -> town.where(0, 0));
        Bound.leaves("costs", Towns::empty, -1, town -> town.costs(0, 0));
        Bound.leaves("sees", Towns::empty, -1, town -> town.sees(0, 0, 0));
        Bound.leaves("bad", Towns::empty, -1, town -> town.bad(0));
        Bound.leaves("paint", Towns::empty, -1, town -> town.paint(1, 0));
        Bound.leaves("mend", Towns::empty, -1, town -> town.mend(1, 0));
        Bound.leaves("third", Towns::empty, -1, town -> town.third(1, 0));
        Bound.leaves("soon", Towns::empty, -1, town -> town.soon(0, 0, 0, 0));
        Bound.leaves("way", Towns::empty, -1, town -> town.way(0, 0, 0, 0, 0));
        Bound.leaves("file", Towns::empty, -1, town -> town.file(1, 1, 0));
        Bound.leaves("drawn", Towns::empty, -1, town -> town.drawn(0, 0));
        Bound.due("a row() spoils them all", rowOfNobody(), 0);
        Towns.full();
        Bound.due("another object has nothing to do with it", new ThreeColours().count(0), 0);

        Bound.by("The constants", "`NONE = -1`: There is none.");
        Bound.due("NONE", ThreeColours.NONE, -1);

        Bound.by("What it is", "An object is used for at most 512 calls after it has been made; what later calls answer is free.");
        ThreeColours town = new ThreeColours();
        for (int call = 1; call <= 512; call++) {
            Bound.due("call " + call, town.month(call % 12), (call - 1) % 12);
        }
    }

    private static int rowOfNobody() {
        ThreeColours town = new ThreeColours();
        Due.tape(town, "\u0000\u0000\u0000");
        return town.row();
    }

    private static void thing() {
        Bound.by(2, "A THING: its number.");
        ThreeColours town = new ThreeColours();
        for (int i = 0; i < 10; i++) {
            int[] it = {i % 4, i % 8, (i + 3) % 8, 90 + i, 99 - i};
            Bound.due("the number", town.thing(it[0], it[1], it[2], it[3], it[4]), i);
            Bound.due("status()", town.status(), 0);
            for (int what = 0; what < 5; what++) {
                Bound.due("of(" + i + ", " + what + ")", town.of(i, what), it[what]);
            }
            Bound.due("it need not", town.of(i, 5), 0);
            Bound.due("it does not bloom", town.of(i, 6), 0);
        }

        Bound.by(2, "-1; -5.");
        int[][] ends = {{0, 3}, COLOUR, COLOUR, PRICE, PRICE};
        Bound.ends("thing", Towns::empty, new int[] {1, 2, 3, 4, 5}, ends, (it, n) -> it.thing(n[0], n[1], n[2], n[3], n[4]));
        Bound.ends("thing", Towns::busy, new int[] {1, 2, 3, 4, 5}, ends, (it, n) -> it.thing(n[0], n[1], n[2], n[3], n[4]));
        Supplier<ThreeColours> nine = () -> {
            ThreeColours it = new ThreeColours();
            for (int i = 0; i < 9; i++) {
                it.thing(0, 0, 0, 0, 0);
            }
            return it;
        };
        Bound.taken("a tenth", nine, it -> it.thing(0, 0, 0, 0, 0));
        Bound.refused("an eleventh", Towns::full, -5, it -> it.thing(0, 0, 0, 0, 0));
        Bound.refused("one of wrong numbers and without room", Towns::full, -1, it -> it.thing(-1, 0, 0, 0, 0));
        town = nine.get();
        town.image(0);
        town.thing(0, 1, 0, 0, 0);
        town.put(9, 5, 1);
        town.bloom(9, 4095, 7);
        town.thing(0, 2, 0, 0, 0);
        town.back(0);
        Bound.due("gone back to nine there is room again", town.thing(0, 3, 0, 0, 0), 9);
        Bound.due("it is the new one", town.of(9, 1), 3);
        Bound.due("it need not", town.of(9, 5), 0);
        Bound.due("it does not bloom", town.of(9, 6), 0);
        Bound.due("in no colour", town.of(9, 7), 0);
        Bound.due("and then no more", town.thing(0, 4, 0, 0, 0), -5);
    }

    private static void put() {
        Bound.by(3, "SORT (what 0), COLOUR (1), WISHED (2), COST (3), WORTH (4), MUST (5) of a THING: what it was.");
        int[] highest = {3, 7, 7, 99, 99, 1};
        ThreeColours town = Towns.full();
        for (int what = 0; what < 6; what++) {
            int was = town.of(9, what);
            int next = town.of(8, what);
            Bound.due("the last thing's, to the highest, what " + what, town.put(9, what, highest[what]), was);
            Bound.due("status()", town.status(), 0);
            Bound.due("of(9, " + what + ")", town.of(9, what), highest[what]);
            Bound.due("to the lowest, what " + what, town.put(9, what, 0), highest[what]);
            Bound.due("of(9, " + what + ")", town.of(9, what), 0);
            Bound.due("the same again", town.put(9, what, 0), 0);
            Bound.due("its neighbour's", town.of(8, what), next);
        }

        Bound.by(3, "-1; -2.");
        for (int what = 0; what < 6; what++) {
            Bound.ends("put", Towns::busy, new int[] {0, what, 1}, new int[][] {null, null, {0, highest[what]}},
                    (it, n) -> it.put(n[0], n[1], n[2]));
        }
        Bound.ends("put", Towns::busy, new int[] {0, 1, 0}, new int[][] {null, {0, 5}, null}, (it, n) -> it.put(n[0], n[1], n[2]));
        Bound.taken("the last thing", Towns::busy, it -> it.put(3, 0, 0));
        for (int none : new int[] {4, 9, 10, -1, -2, Bound.MIN, Bound.MAX}) {
            Bound.refused("thing " + none, Towns::busy, -2, it -> it.put(none, 0, 0));
            Bound.refused("thing " + none + " and a wrong value", Towns::busy, -1, it -> it.put(none, 0, 4));
            Bound.refused("thing " + none + " and a wrong what", Towns::busy, -1, it -> it.put(none, 6, 0));
        }
        Bound.taken("thing 9 of ten", Towns::full, it -> it.put(9, 0, 0));
        Bound.refused("thing 10 of ten", Towns::full, -2, it -> it.put(10, 0, 0));
        Bound.refused("thing 0 of none", Towns::empty, -2, it -> it.put(0, 0, 0));
    }

    private static void bloom() {
        Bound.by(4, "BLOOM of a THING: 0.");
        ThreeColours town = Towns.full();
        Bound.due("the last thing, all months, the highest colour", town.bloom(9, 4095, 7), 0);
        Bound.due("status()", town.status(), 0);
        Bound.due("months", town.of(9, 6), 4095);
        Bound.due("colour", town.of(9, 7), 7);
        Bound.due("no months, grey", town.bloom(9, 0, 0), 0);
        Bound.due("months", town.of(9, 6), 0);
        Bound.due("colour", town.of(9, 7), 0);
        Bound.due("its neighbour", town.of(8, 6), 0);

        Bound.by(4, "-1 (MONTHS 0 .. 4095, colour); -2.");
        Bound.ends("bloom", Towns::busy, new int[] {2, 5, 5}, new int[][] {null, {0, 4095}, COLOUR},
                (it, n) -> it.bloom(n[0], n[1], n[2]));
        Bound.taken("the last thing", Towns::busy, it -> it.bloom(3, 1, 1));
        for (int none : new int[] {4, 10, -1, Bound.MIN, Bound.MAX}) {
            Bound.refused("thing " + none, Towns::busy, -2, it -> it.bloom(none, 1, 1));
            Bound.refused("thing " + none + " and wrong months", Towns::busy, -1, it -> it.bloom(none, 4096, 1));
            Bound.refused("thing " + none + " and a wrong colour", Towns::busy, -1, it -> it.bloom(none, 1, 8));
        }
        Bound.refused("thing 0 of none", Towns::empty, -2, it -> it.bloom(0, 0, 0));
    }

    private static void window() {
        Bound.by(5, "A WINDOW: its number.");
        ThreeColours town = new ThreeColours();
        for (int i = 0; i < 8; i++) {
            Bound.due("the number", town.window(i == 0 ? 0 : 1023 - i, i == 1 ? 0 : 1023 - 2 * i, i == 2 ? 0 : 99 - i), i);
            Bound.due("status()", town.status(), 0);
        }
        for (int i = 0; i < 8; i++) {
            Bound.due("things", town.turn(i, 0, 0), i == 0 ? 0 : 1023 - i);
            Bound.due("places", town.turn(i, 1, 0), i == 1 ? 0 : 1023 - 2 * i);
            Bound.due("shut", town.turn(i, 2, 0), i == 2 ? 0 : 99 - i);
        }

        Bound.by(5, "-1 (THINGS, PLACES 0 .. 1023 as bits, SHUT); -5.");
        int[][] ends = {BITS, BITS, PRICE};
        Bound.ends("window", Towns::empty, new int[] {1, 2, 3}, ends, (it, n) -> it.window(n[0], n[1], n[2]));
        Bound.ends("window", Towns::busy, new int[] {1, 2, 3}, ends, (it, n) -> it.window(n[0], n[1], n[2]));
        Supplier<ThreeColours> seven = () -> {
            ThreeColours it = new ThreeColours();
            for (int i = 0; i < 7; i++) {
                it.window(0, 0, 0);
            }
            return it;
        };
        Bound.taken("an eighth", seven, it -> it.window(0, 0, 0));
        Bound.refused("a ninth", Towns::full, -5, it -> it.window(0, 0, 0));
        Bound.refused("one of wrong numbers and without room", Towns::full, -1, it -> it.window(-1, 0, 0));
        town = seven.get();
        town.image(1);
        town.window(0, 0, 1);
        town.back(1);
        Bound.due("gone back to seven there is room again", town.window(0, 0, 2), 7);
        Bound.due("it is the new one", town.turn(7, 2, 0), 2);
    }

    private static void turn() {
        Bound.by(6, "What a WINDOW looks at, THINGS (what 0), PLACES (1), SHUT (2): what it was.");
        ThreeColours town = Towns.full();
        for (int what = 0; what < 3; what++) {
            int highest = what == 2 ? 99 : 1023;
            int was = what == 0 ? 0b11 << 7 : what == 1 ? 0b101 << 7 : 7;
            Bound.due("the last window's, to the highest, what " + what, town.turn(7, what, highest), was);
            Bound.due("status()", town.status(), 0);
            Bound.due("to the lowest, what " + what, town.turn(7, what, 0), highest);
            Bound.due("the same again, what " + what, town.turn(7, what, 0), 0);
        }
        Bound.due("its neighbour's", town.turn(6, 0, 0), 0b11 << 6);

        Bound.by(6, "-1; -2.");
        for (int what = 0; what < 3; what++) {
            Bound.ends("turn", Towns::busy, new int[] {0, what, 1}, new int[][] {null, null, what == 2 ? PRICE : BITS},
                    (it, n) -> it.turn(n[0], n[1], n[2]));
        }
        Bound.ends("turn", Towns::busy, new int[] {0, 1, 0}, new int[][] {null, {0, 2}, null}, (it, n) -> it.turn(n[0], n[1], n[2]));
        Bound.taken("the last window", Towns::busy, it -> it.turn(2, 0, 0));
        for (int none : new int[] {3, 7, 8, -1, Bound.MIN, Bound.MAX}) {
            Bound.refused("window " + none, Towns::busy, -2, it -> it.turn(none, 0, 0));
            Bound.refused("window " + none + " and a wrong value", Towns::busy, -1, it -> it.turn(none, 0, 1024));
            Bound.refused("window " + none + " and a wrong what", Towns::busy, -1, it -> it.turn(none, 3, 0));
        }
        Bound.refused("window 8 of eight", Towns::full, -2, it -> it.turn(8, 0, 0));
        Bound.refused("window 0 of none", Towns::empty, -2, it -> it.turn(0, 0, 0));
    }

    private static void of() {
        Bound.by(7, "Of a THING (what 0 .. 5 as for put(), 6 its BLOOM, 7 the BLOOM COLOUR, 8 the colour it shows in the MONTH).");
        ThreeColours town = Towns.busy();
        int[] due = {0, 4, 1, 3, 30, 0, 1 << 2 | 1 << 11, 6, 6};
        for (int what = 0; what < 9; what++) {
            Bound.due("of(2, " + what + ")", town.of(2, what), due[what]);
        }
        town.month(3);
        Bound.due("in month 3", town.of(2, 8), 4);
        town.month(11);
        Bound.due("in month 11", town.of(2, 8), 6);

        Bound.by(7, "NONE.");
        Bound.asks("of", Towns::busy, new int[] {0, 1}, new int[][] {{0, 3}, {0, 8}}, -1, (it, n) -> it.of(n[0], n[1]));
        Bound.asks("of", Towns::full, new int[] {0, 1}, new int[][] {{0, 9}, {0, 8}}, -1, (it, n) -> it.of(n[0], n[1]));
        Bound.leaves("thing 0 of none", Towns::empty, -1, it -> it.of(0, 0));
    }

    private static void street() {
        Bound.by(8, "A STREET is there (1) or not (0): what it was.");
        ThreeColours town = new ThreeColours();
        Bound.due("from the lowest to the highest place", town.street(0, 9, 1), 0);
        Bound.due("status()", town.status(), 0);
        Bound.due("it is there", town.street(0, 9, 1), 1);
        Bound.due("from the other end, too", town.street(9, 0, 0), 1);
        Bound.due("it is not there any more", town.street(9, 0, 0), 0);
        Bound.due("from the other end neither", town.street(0, 9, 1), 0);
        Bound.due("no other street came", town.street(0, 8, 0), 0);
        Bound.due("no other street came", town.street(1, 9, 0), 0);
        for (int one = 0; one < 10; one++) {
            for (int other = one + 1; other < 10; other++) {
                Bound.due("all of them are there at once", town.street(one, other, 1), one == 0 && other == 9 ? 1 : 0);
            }
        }
        town.person(0);
        Bound.due("and lead everywhere", town.soon(0, 0, 4, 7), 1);

        Bound.by(8, "-1 (PLACES, too); -3 the same one.");
        Bound.ends("street", Towns::busy, new int[] {3, 4, 1}, new int[][] {{0, 9}, {0, 9}, {0, 1}},
                (it, n) -> it.street(n[0], n[1], n[2]));
        for (int place : new int[] {0, 5, 9}) {
            for (int there = 0; there < 2; there++) {
                int is = there;
                Bound.refused("place " + place + " with itself", Towns::busy, -3, it -> it.street(place, place, is));
            }
            Bound.refused("place " + place + " with itself, there 2", Towns::busy, -1, it -> it.street(place, place, 2));
        }
        Bound.refused("a place that can't be with itself", Towns::busy, -1, it -> it.street(10, 10, 1));
        Bound.refused("a place that can't be with itself", Towns::busy, -1, it -> it.street(-1, -1, 0));
    }

    private static void person() {
        Bound.by(9, "One of the PEOPLE: its number.");
        ThreeColours town = new ThreeColours();
        int[] coats = {0, 7, 1, 6, 3};
        for (int i = 0; i < 5; i++) {
            Bound.due("the number", town.person(coats[i]), i);
            Bound.due("status()", town.status(), 0);
            Bound.due("at home", town.where(i, 0), -1);
        }
        for (int i = 0; i < 5; i++) {
            Bound.due("the coat", town.coat(i, 0), coats[i]);
        }

        Bound.by(9, "-1; -5.");
        Bound.ends("person", Towns::empty, new int[] {1}, new int[][] {COLOUR}, (it, n) -> it.person(n[0]));
        Bound.ends("person", Towns::busy, new int[] {1}, new int[][] {COLOUR}, (it, n) -> it.person(n[0]));
        Supplier<ThreeColours> four = () -> {
            ThreeColours it = new ThreeColours();
            for (int i = 0; i < 4; i++) {
                it.person(0);
            }
            return it;
        };
        Bound.taken("a fifth", four, it -> it.person(0));
        Bound.refused("a sixth", Towns::full, -5, it -> it.person(0));
        Bound.refused("one of a wrong coat and without room", Towns::full, -1, it -> it.person(-1));
        town = four.get();
        town.image(0);
        town.person(5);
        town.walk(4, 0, 6);
        town.back(0);
        Bound.due("gone back to four there is room again", town.person(6), 4);
        Bound.due("the new one is at home", town.where(4, 0), -1);
        Bound.due("in its own coat", town.coat(4, 6), 6);
        Bound.due("and then no more", town.person(0), -5);
    }

    private static void coat() {
        Bound.by(10, "A COAT: what it was.");
        ThreeColours town = Towns.full();
        Bound.due("the last one's, to the highest", town.coat(4, 7), 4);
        Bound.due("status()", town.status(), 0);
        Bound.due("to grey", town.coat(4, 0), 7);
        Bound.due("the same again", town.coat(4, 0), 0);
        Bound.due("its neighbour's", town.coat(3, 3), 3);

        Bound.by(10, "-1; -2.");
        Bound.ends("coat", Towns::busy, new int[] {2, 5}, new int[][] {null, COLOUR}, (it, n) -> it.coat(n[0], n[1]));
        Bound.taken("the last one", Towns::busy, it -> it.coat(2, 1));
        for (int none : new int[] {3, 4, 5, -1, Bound.MIN, Bound.MAX}) {
            Bound.refused("one " + none, Towns::busy, -2, it -> it.coat(none, 1));
            Bound.refused("one " + none + " and a wrong colour", Towns::busy, -1, it -> it.coat(none, 8));
        }
        Bound.refused("one 5 of five", Towns::full, -2, it -> it.coat(5, 1));
        Bound.refused("one 0 of nobody", Towns::empty, -2, it -> it.coat(0, 1));
    }

    private static void same() {
        Bound.by(11, "Two colours are told to COUNT AS ONE (1) or not (0; what counts as one by others stays so): what was told.");
        ThreeColours town = new ThreeColours();
        Bound.due("the lowest and the highest", town.same(0, 7, 1), 0);
        Bound.due("status()", town.status(), 0);
        Bound.due("told before", town.same(0, 7, 1), 1);
        Bound.due("told the other way round", town.same(7, 0, 0), 1);
        Bound.due("not any more", town.same(7, 0, 0), 0);
        Bound.due("they do not count as one any more", town.counts(7), 7);
        town.same(1, 2, 1);
        town.same(2, 3, 1);
        town.same(1, 3, 1);
        Bound.due("one of a ring is taken off", town.same(1, 2, 0), 1);
        Bound.due("by others it stays so", town.counts(2), 1);
        Bound.due("what was never told of two that count as one", town.same(1, 2, 0), 0);
        Bound.due("still so", town.counts(2), 1);
        Bound.due("the last one that holds it", town.same(2, 3, 0), 1);
        Bound.due("now it is alone", town.counts(2), 2);
        for (int colour = 0; colour < 8; colour++) {
            for (int other = colour + 1; other < 8; other++) {
                town.same(colour, other, 1);
            }
        }
        Bound.due("all told with all", town.counts(7), 0);

        Bound.by(11, "-1; -3 the same one.");
        Bound.ends("same", Towns::busy, new int[] {2, 6, 1}, new int[][] {COLOUR, COLOUR, {0, 1}},
                (it, n) -> it.same(n[0], n[1], n[2]));
        for (int colour : new int[] {0, 3, 7}) {
            Bound.refused("colour " + colour + " with itself", Towns::busy, -3, it -> it.same(colour, colour, 1));
            Bound.refused("colour " + colour + " not with itself", Towns::busy, -3, it -> it.same(colour, colour, 0));
            Bound.refused("colour " + colour + " with itself, are 2", Towns::busy, -1, it -> it.same(colour, colour, 2));
        }
        Bound.refused("a colour that can't be with itself", Towns::busy, -1, it -> it.same(8, 8, 1));
        Bound.refused("a colour that can't be with itself", Towns::busy, -1, it -> it.same(-1, -1, 1));
    }

    private static void counts() {
        Bound.by(12, "The lowest colour that counts as one with a colour.");
        ThreeColours town = new ThreeColours();
        for (int colour = 0; colour < 8; colour++) {
            Bound.due("itself at first", town.counts(colour), colour);
        }
        for (int colour = 7; colour > 0; colour--) {
            town.same(colour, colour - 1, 1);
            for (int other = 0; other < 8; other++) {
                Bound.due("a chain down to " + (colour - 1) + ", colour " + other, town.counts(other), Math.min(other, colour - 1));
            }
        }
        town.same(3, 4, 0);
        Bound.due("broken in the midst: 7", town.counts(7), 4);
        Bound.due("broken in the midst: 3", town.counts(3), 0);
        for (int step = 1; step < 8; step += 2) {
            for (int start = 0; start < 8; start++) {
                chain(step, start);
            }
        }

        Bound.by(12, "NONE.");
        Bound.asks("counts", Towns::busy, new int[] {0}, new int[][] {COLOUR}, -1, (it, n) -> it.counts(n[0]));
    }

    /** A chain of all colours in some order: each hangs together with all by its neighbours. */
    private static void chain(int step, int start) {
        ThreeColours town = new ThreeColours();
        int[] order = new int[8];
        for (int i = 0; i < 8; i++) {
            order[i] = (start + i * step) % 8;
            if (i > 0) {
                town.same(order[i - 1], order[i], 1);
            }
        }
        String what = "a chain " + java.util.Arrays.toString(order);
        for (int colour = 0; colour < 8; colour++) {
            Bound.due(what + ", colour " + colour, town.counts(colour), 0);
        }
        town.same(order[4], order[3], 0);
        for (int i = 0; i < 8; i += 4) {
            int lowest = Math.min(Math.min(order[i], order[i + 1]), Math.min(order[i + 2], order[i + 3]));
            for (int j = i; j < i + 4; j++) {
                Bound.due(what + " broken in the midst, colour " + order[j], town.counts(order[j]), lowest);
            }
        }
    }

    private static void month() {
        Bound.by(13, "The MONTH: what it was.");
        ThreeColours town = new ThreeColours();
        Bound.due("at first", town.month(11), 0);
        Bound.due("status()", town.status(), 0);
        Bound.due("the highest", town.month(11), 11);
        Bound.due("still the highest", town.month(0), 11);
        Bound.due("the lowest", town.month(1), 0);
        Bound.due("count(12)", town.count(12), 1);

        Bound.by(13, "-1.");
        Bound.ends("month", Towns::empty, new int[] {5}, new int[][] {{0, 11}}, (it, n) -> it.month(n[0]));
        Bound.ends("month", Towns::busy, new int[] {5}, new int[][] {{0, 11}}, (it, n) -> it.month(n[0]));
    }

    private static void walk() {
        Bound.by(14, "A WALK: how many there are.");
        ThreeColours town = Towns.busy();
        Bound.due("a fifth", town.walk(2, 119, 9), 5);
        Bound.due("status()", town.status(), 0);
        Bound.due("home is a walk, too", town.walk(2, 0, -1), 6);
        Bound.due("the same once more", town.walk(2, 0, -1), 7);
        Bound.due("count(4)", town.count(4), 7);

        Bound.by(14, "-1 (MINUTE, PLACE but NONE); -2; -5.");
        Bound.ends("walk", Towns::busy, new int[] {1, 50, 5}, new int[][] {null, {0, 119}, {-1, 9}},
                (it, n) -> it.walk(n[0], n[1], n[2]));
        Bound.taken("the last one", Towns::busy, it -> it.walk(2, 0, 0));
        for (int none : new int[] {3, 5, -1, Bound.MIN, Bound.MAX}) {
            Bound.refused("one " + none, Towns::busy, -2, it -> it.walk(none, 0, 0));
            Bound.refused("one " + none + " in a wrong minute", Towns::busy, -1, it -> it.walk(none, 120, 0));
            Bound.refused("one " + none + " at a wrong place", Towns::busy, -1, it -> it.walk(none, 0, -2));
        }
        Supplier<ThreeColours> nearlyFull = () -> {
            ThreeColours it = new ThreeColours();
            it.person(0);
            Towns.walks(it, 59);
            return it;
        };
        Bound.taken("a sixtieth", nearlyFull, it -> it.walk(0, 0, 0));
        Bound.due("there are sixty", nearlyFull.get().walk(0, 0, 0), 60);
        Bound.refused("a 61st", Towns::full, -5, it -> it.walk(0, 0, 0));
        Bound.refused("a 61st, home", Towns::full, -5, it -> it.walk(4, 119, -1));
        Bound.refused("a 61st of nobody", Towns::full, -2, it -> it.walk(5, 0, 0));
        Bound.refused("a 61st in a wrong minute", Towns::full, -1, it -> it.walk(0, -1, 0));
        town = nearlyFull.get();
        town.image(0);
        town.walk(0, 50, 1);
        town.back(0);
        Bound.due("gone back to 59 there is room again", town.walk(0, 50, 2), 60);
        Bound.due("for the new one", town.where(0, 50), 2);
        Bound.due("and then no more", town.walk(0, 51, 3), -5);
        Bound.due("it did not come", town.where(0, 51), 2);
    }

    private static void where() {
        Bound.by(15, "Where one is at a MINUTE (NONE at home).");
        ThreeColours town = new ThreeColours();
        for (int i = 0; i < 5; i++) {
            town.person(i);
        }
        town.walk(4, 0, 0);
        town.walk(4, 119, 9);
        town.walk(4, 60, -1);
        int[][] due = {{0, 0}, {59, 0}, {60, -1}, {118, -1}, {119, 9}};
        for (int[] row : due) {
            Bound.due("the last one at " + row[0], town.where(4, row[0]), row[1]);
            Bound.due("another one at " + row[0], town.where(3, row[0]), -1);
        }

        Bound.by(15, "NONE.");
        Supplier<ThreeColours> out = () -> {
            ThreeColours it = new ThreeColours();
            it.person(0);
            it.person(0);
            it.walk(0, 0, 3);
            it.walk(1, 0, 4);
            return it;
        };
        Bound.asks("where", out, new int[] {0, 50}, new int[][] {{0, 1}, {0, 119}}, -1, (it, n) -> it.where(n[0], n[1]));
        Bound.leaves("one 0 of nobody", Towns::empty, -1, it -> it.where(0, 0));
    }
}
