import java.util.function.Supplier;

/** WAYS, FILES and DAYS of part IV of the terms, and promises 36 to 40. */
final class WayBounds {
    private WayBounds() {
    }

    static void all() {
        ways();
        soonest();
        files();
        days();
        soon();
        way();
        file();
        day();
        drawn();
    }

    /** A road of all PLACES from 0 to 9, and one of the PEOPLE. */
    private static ThreeColours road(String law) {
        ThreeColours town = Due.under(law);
        for (int place = 0; place < 9; place++) {
            town.street(place, place + 1, 1);
        }
        town.person(1);
        return town;
    }

    private static void ways() {
        Bound.by("IV", "A WAY of one from a PLACE at a MINUTE: each MINUTE it stays, or goes by a STREET; in each, the first and last too, "
                + "every WINDOW that looks at where it is HOLDS, in the MONTH, all others as their WALKS tell.");
        ThreeColours town = road("limit 8");
        Bound.due("nine streets, nine minutes", town.soon(0, 0, 0, 9), 9);
        town.street(8, 9, 0);
        Bound.due("without a street there is none", town.soon(0, 0, 0, 9), -1);
        // The WINDOW looks at one PLACE and holds nobody there at one MINUTE.
        for (int shut = 0; shut < 4; shut++) {
            town = road("limit 8;limit 0 if minute=" + shut);
            town.window(0, 1 << shut, 0);
            Bound.due("where it would be at " + shut, town.soon(0, 0, 0, 3), shut == 0 ? -1 : 4);
            town.turn(0, 1, 1023 - (1 << shut));
            Bound.due("where it would not be at " + shut, town.soon(0, 0, 0, 3), 3);
        }
        windowsThatLook();
        town = road("limit 8;limit 0 if minute=119");
        town.window(0, 1 << 1, 0);
        Bound.due("the last minute of all", town.soon(0, 118, 0, 1), -1);
        Bound.due("the last but one", town.soon(0, 117, 0, 1), 118);
        town = road("limit 8;limit 0 if month=11");
        town.window(0, 1023, 0);
        Bound.due("in month 0", town.soon(0, 0, 0, 0), 0);
        town.month(11);
        Bound.due("in month 11", town.soon(0, 0, 0, 0), -1);
        town = road("limit 1");
        town.person(2);
        town.window(0, 0b11, 0);
        town.walk(1, 5, 1);
        town.walk(1, 6, -1);
        town.walk(0, 0, 0);
        Bound.due("another one is out at 5", town.soon(0, 5, 0, 0), -1);
        Bound.due("not at 4", town.soon(0, 4, 0, 0), 4);
        Bound.due("nor at 6", town.soon(0, 6, 0, 0), 6);
        Bound.due("its own walks do not matter to the one, those of the other do", town.soon(1, 4, 1, 1), -1);
    }

    /** WINDOWS that do not HOLD by what else they see matter where they look, and nowhere else. */
    private static void windowsThatLook() {
        for (int place = 0; place < 10; place++) {
            ThreeColours town = road("limit 0;hidden if coat=1");
            town.thing(0, 1, 1, 0, 0);
            town.window(1, 1 << place, 0);
            for (int from = 0; from < 10; from++) {
                Bound.due("from " + from + " on, place " + place + " is looked at", town.soon(0, 0, from, from),
                        from == place ? -1 : 0);
            }
            Bound.due("on to 9, place " + place + " is looked at", town.soon(0, 0, 0, 9), -1);
            Bound.due("past place " + place, town.soon(0, 0, place == 9 ? 0 : place + 1, place == 9 ? 8 : 9),
                    place == 9 ? 8 : 8 - place);
            town.turn(0, 1, 0);
            Bound.due("no place is looked at", town.soon(0, 0, 0, 9), 9);
            town.turn(0, 1, 1 << place);
            town.turn(0, 0, 0);
            Bound.due("it holds, as it is hidden", town.soon(0, 0, 0, 9), 9);
            town.person(2);
            town.walk(1, 0, place);
            Bound.due("and the other one, too", town.soon(0, 0, 0, 9), 9);
        }
        ThreeColours town = road("limit 0;limit 1 if window=7");
        for (int i = 0; i < 8; i++) {
            town.window(0, i < 7 ? 0 : 1 << 4, 0);
        }
        town.person(2);
        town.walk(1, 0, 4);
        Bound.due("the last of eight sees two there", town.soon(0, 0, 3, 4), -1);
        town.coat(1, 1);
        Bound.due("of the same coat", town.soon(0, 0, 3, 4), 1);
    }

    private static void soonest() {
        Bound.by("IV", "SOONEST: the first MINUTE at which it can be at another PLACE (to 119); the FIRST of those ways: as a row of PLACES, "
                + "lower ones ahead.");
        ThreeColours town = road("limit 8");
        Bound.due("to 119", town.soon(0, 110, 0, 9), 119);
        Bound.due("not to 120", town.soon(0, 111, 0, 9), -1);
        Bound.due("from 119 on it stays", town.soon(0, 119, 0, 0), 119);
        Bound.due("and goes nowhere", town.soon(0, 119, 0, 1), -1);
        town = road("limit 0;limit 8 if minute=119;hidden if minute=119 or place<9");
        town.window(0, 1023, 0);
        Bound.due("it waits 110 minutes", town.soon(0, 0, 0, 9), 119);
        Bound.due("at the lowest place", town.way(0, 0, 0, 9, 110), 0);
        Bound.due("as long as it can", town.way(0, 0, 0, 9, 111), 1);
        town = new ThreeColours();
        town.person(0);
        for (int middle : new int[] {8, 1, 0}) {
            town.street(5, middle, 1);
            town.street(middle, 9, 1);
            Bound.due("by " + middle, town.soon(0, 0, 5, 9), 2);
            Bound.due("the lowest of them", town.way(0, 0, 5, 9, 1), middle);
        }
        firstOfWays();
    }

    /** By 1 and 8 or by 2 and 3: the first differing PLACE tells, not the last. */
    private static void firstOfWays() {
        ThreeColours town = new ThreeColours();
        town.person(0);
        int[][] streets = {{0, 1}, {1, 8}, {8, 9}, {0, 2}, {2, 3}, {3, 9}};
        for (int[] street : streets) {
            town.street(street[0], street[1], 1);
        }
        int[] due = {0, 1, 8, 9};
        for (int at = 0; at < 4; at++) {
            Bound.due("the lower one ahead, at " + at, town.way(0, 116, 0, 9, 116 + at), due[at]);
            Bound.due("the lower one ahead on the way back, at " + at, town.way(0, 0, 9, 0, at), new int[] {9, 3, 2, 0}[at]);
        }
        town.street(1, 8, 0);
        Bound.due("the other one is left", town.way(0, 116, 0, 9, 117), 2);
        town.street(0, 9, 1);
        Bound.due("a shorter one", town.soon(0, 116, 0, 9), 117);
        // It may not be at 7 ahead of 119, so that it goes where it is lower, as long as that is in time.
        town = road("limit 8;limit 0 if minute<119");
        town.street(5, 7, 1);
        town.window(0, 1 << 7, 0);
        int[][] waits = {{5, 7}, {5, 5, 7}, {5, 4, 5, 7}, {5, 4, 4, 5, 7}, {5, 4, 3, 4, 5, 7}};
        for (int[] row : waits) {
            int minute = 120 - row.length;
            for (int at = 0; at < row.length; at++) {
                Bound.due("from " + minute + " on, at " + (minute + at), town.way(0, minute, 5, 7, minute + at), row[at]);
            }
        }
    }

    /** How many orders, and the first as digits. */
    private static void orders(int[] coats, int k, int l, int number, int... first) {
        ThreeColours town = new ThreeColours();
        for (int coat : coats) {
            town.person(coat);
        }
        String what = "coats " + java.util.Arrays.toString(coats) + ", k " + k + ", l " + l;
        Bound.due(what, town.file(k, l, -1), number);
        for (int i = 0; i < coats.length; i++) {
            Bound.due(what + ", the first: " + i, town.file(k, l, i), number == 0 ? -1 : first[i]);
        }
        Bound.due(what + ", behind the last", town.file(k, l, coats.length), -1);
    }

    private static void files() {
        Bound.by("IV", "A FILE: all PEOPLE one behind the other, so that of any k neighbours (of all, if there are fewer) COATS have at most l "
                + "colours (counted as one, none free): in how many orders; the FIRST as a row.");
        orders(new int[] {}, 1, 1, 1);
        orders(new int[] {}, 8, 8, 1);
        orders(new int[] {3}, 8, 1, 1, 0);
        orders(new int[] {0, 7}, 1, 1, 2, 0, 1);
        orders(new int[] {0, 7}, 2, 1, 0);
        orders(new int[] {0, 7}, 3, 1, 0);
        orders(new int[] {0, 7}, 3, 2, 2, 0, 1);
        orders(new int[] {1, 2, 3, 4, 5}, 1, 1, 120, 0, 1, 2, 3, 4);
        orders(new int[] {1, 2, 3, 4, 5}, 5, 4, 0);
        orders(new int[] {1, 2, 3, 4, 5}, 5, 5, 120, 0, 1, 2, 3, 4);
        orders(new int[] {1, 2, 3, 4, 5}, 4, 4, 120, 0, 1, 2, 3, 4);
        orders(new int[] {1, 2, 3, 4, 5}, 8, 4, 0);
        orders(new int[] {1, 2, 3, 4, 5}, 8, 5, 120, 0, 1, 2, 3, 4);
        orders(new int[] {1, 2, 1, 1, 1}, 5, 1, 0);
        orders(new int[] {1, 1, 1, 1, 1}, 8, 1, 120, 0, 1, 2, 3, 4);
        // Two of another coat each at the ends: three between them.
        orders(new int[] {1, 2, 1, 3, 1}, 4, 2, 12, 1, 0, 2, 4, 3);
        ThreeColours town = Due.under("free;hidden");
        town.person(1);
        town.person(2);
        Bound.due("none is free", town.file(2, 1, -1), 0);
        town.same(1, 2, 1);
        Bound.due("counted as one", town.file(2, 1, -1), 2);
    }

    private static int lowest(int seed, int draw) {
        long s = seed;
        for (int i = 0; i < draw; i++) {
            s = (s * 1103 + 12345) % 1_000_003;
        }
        return (int) s;
    }

    private static void days() {
        Bound.by("IV", "DRAWS: s becomes (s times 1103 and 12345) modulo 1,000,003, at first s is the SEED (0 .. 1,000,000); a DRAW of n is "
                + "the new s modulo n.");
        // What 895 becomes is below 1,000,003, what 896 becomes is above; 870,345 becomes 0, 327,279 becomes 1,000,002.
        Bound.due("895 becomes", lowest(895, 1), 895 * 1103 + 12345);
        Bound.due("896 becomes", lowest(896, 1), 896 * 1103 + 12345 - 1_000_003);
        Bound.due("870,345 becomes", lowest(870_345, 1), 0);
        Bound.due("327,279 becomes", lowest(327_279, 1), 1_000_002);
        for (int seed : new int[] {0, 1, 895, 896, 870_345, 327_279, 999_999, 1_000_000}) {
            ThreeColours town = new ThreeColours();
            for (int i = 0; i < 5; i++) {
                town.person(0);
            }
            Bound.due("seed " + seed, town.day(seed), 0);
            for (int i = 0; i < 5; i++) {
                Bound.due("seed " + seed + ", one " + i, town.drawn(i, 0), lowest(seed, i + 1) % 10);
            }
        }
        ThreeColours town = new ThreeColours();
        Bound.due("seed 1,000,001", town.day(1_000_001), -1);
        Bound.due("seed -1", town.day(-1), -1);

        Bound.by("IV", "A DAY by a SEED in the MONTH, WALKS left aside: one by one a DRAW of ten tells the PLACE at MINUTE 0; in each later "
                + "MINUTE one by one a DRAW of one more than there are STREETS from where it is: 0 it stays, else it goes by that STREET (by "
                + "the other PLACES' numbers).");
        // Without STREETS a DRAW of one is always 0; with all of them it is a DRAW of ten.
        for (int streets = 0; streets < 2; streets++) {
            town = new ThreeColours();
            town.person(0);
            town.person(0);
            town.walk(0, 0, 4);
            for (int one = 0; one < 10; one++) {
                for (int other = one + 1; other < 10; other++) {
                    town.street(one, other, streets);
                }
            }
            town.day(31);
            int[] at = {lowest(31, 1) % 10, lowest(31, 2) % 10};
            for (int minute = 0; minute < 120; minute++) {
                for (int i = 0; i < 2; i++) {
                    if (minute > 0 && streets == 1) {
                        int draw = lowest(31, 2 * minute + i + 1) % 10;
                        at[i] = draw == 0 ? at[i] : draw <= at[i] ? draw - 1 : draw;
                    }
                    Bound.due("streets " + streets + ", one " + i + " at " + minute, town.drawn(i, minute), at[i]);
                }
            }
        }

        Bound.by("IV", "How often a WINDOW does not HOLD, all MINUTES together.");
        town = Due.under("limit 0");
        Bound.due("nobody, no window", town.day(0), 0);
        for (int i = 0; i < 8; i++) {
            town.window(0, 1023, 0);
        }
        Bound.due("nobody is seen", town.day(0), 0);
        town.person(0);
        Bound.due("eight windows in 120 minutes", town.day(0), 960);
        Due.law(town, "limit 0 if minute=119 and window=7");
        town.force(1);
        Bound.due("the last window in the last minute", town.day(0), 1);
        Due.law(town, "limit 0 if minute=0 and window=0");
        town.force(2);
        Bound.due("the first window in the first minute", town.day(0), 1);
        Due.law(town, "limit 0 if month=11");
        town.force(3);
        Bound.due("in month 0", town.day(0), 0);
        town.month(11);
        Bound.due("in month 11", town.day(0), 960);
    }

    private static void soon() {
        Bound.by(36, "SOONEST of one from a PLACE at a MINUTE to another one.");
        ThreeColours town = road("limit 8");
        Bound.due("from 0 to 9 at 0", town.soon(0, 0, 0, 9), 9);
        Bound.due("from 9 to 0 at 110", town.soon(0, 110, 9, 0), 119);
        Bound.due("to the same one", town.soon(0, 7, 9, 9), 7);
        Bound.due("the last one of five", fifth().soon(4, 0, 0, 1), 1);
        alikeQuestions();
        for (int person = 0; person < 2; person++) {
            town = road("limit 2");
            town.person(2);
            town.person(3);
            town.window(0, 1 << 5, 0);
            town.walk(2, 0, 5);
            town.walk(person, 0, 5);
            for (int minute : new int[] {0, 110, 111, 119}) {
                for (int from = 0; from < 10; from++) {
                    for (int to = 0; to < 10; to++) {
                        int then = minute + Math.abs(from - to);
                        Bound.due("one " + person + " at " + minute + " from " + from + " to " + to,
                                town.soon(person, minute, from, to), then < 120 ? then : -1);
                    }
                }
            }
        }

        Bound.by(36, "NONE.");
        Supplier<ThreeColours> open = () -> road("limit 8");
        Bound.asks("soon", open, new int[] {0, 5, 4, 5}, new int[][] {{0, 0}, null, {0, 9}, {0, 9}}, -1,
                (it, n) -> it.soon(n[0], n[1], n[2], n[3]));
        Bound.asks("soon", open, new int[] {0, 5, 4, 4}, new int[][] {null, {0, 119}, null, null}, -1,
                (it, n) -> it.soon(n[0], n[1], n[2], n[3]));
        Bound.asks("soon", WayBounds::fifth, new int[] {0, 5, 0, 1}, new int[][] {{0, 4}, {0, 118}, {0, 1}, {0, 1}}, -1,
                (it, n) -> it.soon(n[0], n[1], n[2], n[3]));
        Bound.leaves("one 0 of nobody", Towns::empty, -1, it -> it.soon(0, 0, 0, 0));
        Bound.leaves("no way", WayBounds::fifth, -1, it -> it.soon(0, 0, 0, 9));
        for (int none : new int[] {-1, 10, Bound.MIN, Bound.MAX}) {
            Bound.leaves("from " + none + " to the same", open, -1, it -> it.soon(0, 5, none, none));
            Bound.leaves("at minute " + (none == 10 ? 120 : none), open, -1, it -> it.soon(0, none == 10 ? 120 : none, 4, 4));
        }
    }

    /** Alike questions one behind the other: each has its own answer. */
    private static void alikeQuestions() {
        ThreeColours town = road("limit 8");
        town.person(2);
        int[][] asked = {{0, 1, 0, 5}, {1, 0, 0, 5}, {0, 0, 1, 5}, {0, 1, 0, 5}, {0, 0, 0, 6}, {0, 0, 1, 0}, {0, 0, 0, 1}};
        for (int[] it : asked) {
            int then = it[1] + Math.abs(it[2] - it[3]);
            String what = java.util.Arrays.toString(it);
            Bound.due(what, town.soon(it[0], it[1], it[2], it[3]), then);
            Bound.due(what + " at first", town.way(it[0], it[1], it[2], it[3], it[1]), it[2]);
            Bound.due(what + " at last", town.way(it[0], it[1], it[2], it[3], then), it[3]);
            Bound.due(what + " behind it", town.way(it[0], it[1], it[2], it[3], then + 1), -1);
        }
    }

    /** Five PEOPLE and a STREET. */
    private static ThreeColours fifth() {
        ThreeColours town = new ThreeColours();
        for (int i = 0; i < 5; i++) {
            town.person(i);
        }
        town.street(0, 1, 1);
        return town;
    }

    private static void way() {
        Bound.by(37, "Where it is at a MINUTE from that one on to SOONEST in the FIRST.");
        ThreeColours town = road("limit 8");
        for (int at = 109; at <= 120; at++) {
            Bound.due("from 110 on, at " + at, town.way(0, 110, 0, 9, at), at < 110 || at > 119 ? -1 : at - 110);
        }
        for (int at = -1; at <= 10; at++) {
            Bound.due("from 0 on, at " + at, town.way(0, 0, 9, 0, at), at < 0 || at > 9 ? -1 : 9 - at);
        }
        for (int from = 0; from < 10; from++) {
            for (int to = 0; to < 10; to++) {
                int there = Math.min(from, to) + Math.abs(from - to) / 2;
                int at = Math.abs(from - there);
                Bound.due("from " + from + " to " + to + " in the midst", town.way(0, 60, from, to, 60 + at), there);
                Bound.due("from " + from + " to " + to + " at the end", town.way(0, 60, from, to, 60 + Math.abs(from - to)), to);
                Bound.due("from " + from + " to " + to + " behind it", town.way(0, 60, from, to, 61 + Math.abs(from - to)), -1);
            }
        }
        Bound.due("to the same one: ahead", town.way(0, 50, 3, 3, 49), -1);
        Bound.due("to the same one", town.way(0, 50, 3, 3, 50), 3);
        Bound.due("to the same one: behind", town.way(0, 50, 3, 3, 51), -1);

        Bound.by(37, "NONE.");
        Supplier<ThreeColours> open = () -> road("limit 8");
        Bound.asks("way", open, new int[] {0, 5, 4, 5, 5}, new int[][] {{0, 0}, null, {0, 9}, {0, 9}, {5, 6}}, -1,
                (it, n) -> it.way(n[0], n[1], n[2], n[3], n[4]));
        Bound.asks("way", open, new int[] {0, 5, 4, 4, 5}, new int[][] {null, {0, 119}, null, null, null}, -1,
                (it, n) -> it.way(n[0], n[1], n[2], n[3], n[1]));
        Bound.asks("way", WayBounds::fifth, new int[] {0, 5, 0, 1, 6}, new int[][] {{0, 4}, null, null, null, {5, 6}}, -1,
                (it, n) -> it.way(n[0], n[1], n[2], n[3], n[4]));
        Bound.leaves("one 0 of nobody", Towns::empty, -1, it -> it.way(0, 0, 0, 0, 0));
        for (int none : new int[] {-1, 10, Bound.MIN, Bound.MAX}) {
            Bound.leaves("from " + none + " to the same", open, -1, it -> it.way(0, 5, none, none, 5));
        }
        for (int at : new int[] {-1, 0, 1, 119, 120, Bound.MIN, Bound.MAX}) {
            Bound.leaves("no way, at " + at, WayBounds::fifth, -1, it -> it.way(0, 0, 0, 9, at));
        }
    }

    private static void file() {
        Bound.by(38, "A FILE (k, l 1 .. 8): in how many orders (i NONE), the i-th of the FIRST.");
        ThreeColours town = fifth();
        Bound.due("k 1, l 1", town.file(1, 1, -1), 120);
        Bound.due("k 8, l 8", town.file(8, 8, -1), 120);
        Bound.due("k 8, l 1", town.file(8, 1, -1), 0);
        Bound.due("the first of the first", town.file(1, 1, 0), 0);
        Bound.due("the last of the first", town.file(8, 8, 4), 4);
        Bound.due("nobody: one order", new ThreeColours().file(8, 8, -1), 1);

        Bound.by(38, "NONE.");
        Bound.asks("file", WayBounds::fifth, new int[] {2, 2, -1}, new int[][] {{1, 8}, {1, 8}, {-1, 4}}, -1,
                (it, n) -> it.file(n[0], n[1], n[2]));
        Bound.asks("file", Towns::busy, new int[] {2, 2, 0}, new int[][] {{1, 8}, {2, 8}, {-1, 2}}, -1,
                (it, n) -> n[1] == 1 ? it.file(3, 1, n[2]) : it.file(n[0], n[1], n[2]));
        Bound.asks("file", Towns::empty, new int[] {2, 2, -1}, new int[][] {{1, 8}, {1, 8}, {-1, -1}}, -1,
                (it, n) -> it.file(n[0], n[1], n[2]));
        for (int i = 0; i < 5; i++) {
            int at = i;
            Bound.leaves("no order, i " + i, WayBounds::fifth, -1, it -> it.file(2, 1, at));
        }
        Bound.leaves("no order: none", WayBounds::fifth, 0, it -> it.file(2, 1, -1));
    }

    private static void day() {
        Bound.by(39, "A DAY, kept as the latest: how often.");
        ThreeColours town = Due.under("limit 0");
        Bound.due("nobody", town.day(0), 0);
        Bound.due("status()", town.status(), 0);
        town.window(0, 1 << 5, 0);
        town.person(0);
        Bound.due("seed 0: at 5", town.day(0), 120);
        Bound.due("it was there", town.drawn(0, 119), 5);
        int highest = lowest(1_000_000, 1) % 10;
        Bound.due("the highest seed", town.day(1_000_000), highest == 5 ? 120 : 0);
        Bound.due("kept as the latest", town.drawn(0, 119), highest);

        Bound.by(39, "-1.");
        Bound.ends("day", Towns::busy, new int[] {5}, new int[][] {{0, 1_000_000}}, (it, n) -> it.day(n[0]));
        Bound.ends("day", Towns::empty, new int[] {5}, new int[][] {{0, 1_000_000}}, (it, n) -> it.day(n[0]));
        Bound.ends("day", Towns::full, new int[] {5}, new int[][] {{0, 1_000_000}}, (it, n) -> it.day(n[0]));
    }

    private static void drawn() {
        Bound.by(40, "Where one was at a MINUTE in the latest DAY.");
        ThreeColours town = fifth();
        town.day(1);
        for (int i = 0; i < 5; i++) {
            Bound.due("one " + i + " at 0", town.drawn(i, 0), lowest(1, i + 1) % 10);
        }
        Bound.holds("the last one at 119", town.drawn(4, 119) >= 0);
        town.day(2);
        Bound.due("the latest counts", town.drawn(0, 0), lowest(2, 1) % 10);
        town.day(-1);
        Bound.due("one that was REFUSED does not", town.drawn(0, 0), lowest(2, 1) % 10);
        town.walk(0, 0, 9);
        town.street(0, 1, 0);
        town.coat(0, 7);
        Bound.due("what comes later does not change it", town.drawn(0, 0), lowest(2, 1) % 10);

        Bound.by(40, "NONE.");
        Supplier<ThreeColours> drawn = () -> {
            ThreeColours it = fifth();
            it.day(1);
            return it;
        };
        Bound.asks("drawn", drawn, new int[] {1, 5}, new int[][] {{0, 4}, {0, 119}}, -1, (it, n) -> it.drawn(n[0], n[1]));
        Bound.asks("drawn", Towns::busy, new int[] {1, 5}, new int[][] {{0, 2}, {0, 119}}, -1, (it, n) -> it.drawn(n[0], n[1]));
        Bound.leaves("no day yet", WayBounds::fifth, -1, it -> it.drawn(0, 0));
        Supplier<ThreeColours> ofNobody = () -> {
            ThreeColours it = new ThreeColours();
            it.day(1);
            it.person(0);
            return it;
        };
        Bound.leaves("one who came later", ofNobody, -1, it -> it.drawn(0, 0));
    }
}
