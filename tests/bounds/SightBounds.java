import java.util.function.Supplier;

/** What part II of the terms says LAWS mean, NEAR of part III, and promises 23 to 26 and 35. */
final class SightBounds {
    private SightBounds() {
    }

    static void all() {
        meanings();
        broken();
        clausesHold();
        lastClause();
        limits();
        prices();
        hiddenAndFree();
        seenAndHolds();
        costs();
        sees();
        judge();
        bad();
        nearest();
        near();
    }

    /** The LIMIT of WINDOW 2 in MONTH 7 at MINUTE 40 in a town with a THING and one of the PEOPLE, all numbers above 0. */
    private static int limit(String law) {
        ThreeColours town = Due.under(law);
        town.thing(1, 1, 1, 1, 1);
        town.thing(3, 5, 6, 1, 1);
        for (int window = 0; window < 3; window++) {
            town.window(1023, 1023, 9);
        }
        town.person(2);
        town.person(4);
        town.walk(1, 0, 2);
        town.month(7);
        return town.sees(2, 40, 1);
    }

    private static void tells(String law, int limit) {
        Bound.due("'" + law + "'", limit(law), limit);
    }

    private static void meanings() {
        Bound.by("II", "SUM: TERM {(\"+\" | \"-\") TERM}. TERM: PART {(\"*\" | \"/\") PART}.");
        tells("limit 1+2*3", 7);
        tells("limit 2*3+1", 7);
        tells("limit 8-2*3", 2);
        tells("limit 9-3-2", 4);
        tells("limit 9-3+2", 8);
        tells("limit 100/10/2", 5);
        tells("limit 6/4*4", 4);
        tells("limit 6*4/4", 6);
        tells("limit 9-[3-2]", 8);
        tells("limit [1+2]*2", 6);
        tells("limit [[[[[[[[1]+1]+1]+1]+1]+1]+1]+0]", 7);
        tells("limit 1" + "+1".repeat(24) + "-1".repeat(20), 5);
        tells("limit 7" + "*1".repeat(49), 7);
        tells("limit 1 if 1+2*3=7 and 7=2*3+1", 1);

        Bound.by("II", "TEST: BOTH {\"or\" BOTH}. BOTH: PLAIN {\"and\" PLAIN}.");
        tells("limit 1 if " + "1=0 or ".repeat(23) + "1=1", 1);
        tells("limit 1 if 1=1" + " or 1=0".repeat(23), 1);
        tells("limit 1 if " + "1=0 or ".repeat(23) + "1=0", 3);
        tells("limit 1 if " + "1=1 and ".repeat(23) + "1=1", 1);
        tells("limit 1 if " + "1=1 and ".repeat(23) + "1=0", 3);
        tells("limit 1 if 1=0 and 1=0 or 1=1", 1);
        tells("limit 1 if 1=1 or 1=1 and 1=0", 1);

        Bound.by("II", "PLAIN: \"not\" PLAIN | \"(\" TEST \")\" | SUM (\"<\" | \">\" | \"=\") SUM.");
        for (int left = 0; left < 3; left++) {
            tells("limit 1 if " + left + "<1", left < 1 ? 1 : 3);
            tells("limit 1 if " + left + ">1", left > 1 ? 1 : 3);
            tells("limit 1 if " + left + "=1", left == 1 ? 1 : 3);
            tells("limit 1 if not " + left + "<1", left < 1 ? 3 : 1);
            tells("limit 1 if not " + left + ">1", left > 1 ? 3 : 1);
            tells("limit 1 if not " + left + "=1", left == 1 ? 3 : 1);
        }
        tells("limit 1 if " + "not ".repeat(96) + "1=1", 1);
        tells("limit 1 if " + "not ".repeat(95) + "1=1", 3);
        tells("limit 1 if " + "not (".repeat(8) + "1=1" + ")".repeat(8), 1);
        tells("limit 1 if " + "not (".repeat(7) + "1=1" + ")".repeat(7), 3);
    }

    private static void broken() {
        Bound.by("II", "Beyond 1,000,000,000 either way, or divided by 0, a SUM, a TEST is BROKEN; / is cut towards 0.");
        tells("limit 1000*1000*1000", 8);
        tells("limit 1000*1000*1000+0", 8);
        tells("limit 1000*1000*1000+1", 3);
        tells("limit 1000*1000*1000+1-1", 3);
        tells("limit 1+1000*1000*1000", 3);
        tells("limit 1000*1000*1000-1", 8);
        tells("limit 1000*1000*1000-1+1", 8);
        tells("limit 0-1000*1000*1000", 0);
        tells("limit 0-1000*1000*1000-1", 3);
        tells("limit 0-1000*1000*1000-1+1", 3);
        tells("limit [0-1]*1000*1000*1000", 0);
        tells("limit [0-1000*1000]*1000-1", 3);
        tells("limit 999*999*999", 8);
        tells("limit 1000*1000*1000*1", 8);
        tells("limit 1000*1000*1000*2", 3);
        tells("limit 1000*1000*1000*2/1000/1000/1000", 3);
        tells("limit 1000*1000*1000/1000/1000/500", 2);
        tells("limit 1000*1000*1000*[1000*1000*1000]", 3);
        tells("limit 1000*1000*1000*[0-1000*1000*1000]", 3);
        tells("limit 0*[1000*1000*1000+1]", 3);
        tells("limit 1/0", 3);
        tells("limit 0/0", 3);
        tells("limit 1/[1-1]", 3);
        tells("limit 1/thing", 3);
        tells("limit 0*[1/0]", 3);
        tells("limit 1+1/0", 3);
        tells("limit 0/1", 0);
        tells("limit 1/1", 1);
        tells("limit 7/8", 0);
        tells("limit 15/2", 7);
        tells("limit 5+[0-1]/2", 5);
        tells("limit 5+[0-2]/2", 4);
        tells("limit 5+[0-3]/2", 4);
        tells("limit 5+3/[0-2]", 4);
        tells("limit [0-15]/[0-2]", 7);
        tells("limit 1 if 1000*1000*1000>0", 1);
        tells("limit 1 if 1000*1000*1000+1>0", 3);
        tells("limit 1 if 0<1000*1000*1000+1", 3);
        tells("limit 1 if 0-1000*1000*1000<0", 1);
        tells("limit 1 if 0-1000*1000*1000-1<0", 3);
        tells("limit 1 if not 1000*1000*1000+1<0", 3);
        tells("limit 1 if 1/0=1/0", 3);
        tells("limit 1 if not 1=1/0", 3);
        tells("limit 1 if 1000*1000*1000=1000*1000*1000", 1);
        tells("limit 1 if 1000*1000*1000-[0-1000*1000*1000]>0", 3);
    }

    private static void clausesHold() {
        Bound.by("II", "A CLAUSE HOLDS, if its \"if\" (if it has one) is so, and neither that nor its SUM is BROKEN (\"or\", \"and\" ask "
                + "what stands behind only if it can still matter).");
        tells("limit 1", 1);
        tells("limit 1 if 1=1", 1);
        tells("limit 1 if 1=0", 3);
        tells("limit 1 if 1/0=1", 3);
        tells("limit 1/0 if 1=1", 3);
        tells("limit 1 if 0<1", 1);
        tells("limit 1 if 1<1", 3);
        tells("limit 1 if 2<1", 3);
        tells("limit 1 if 2>1", 1);
        tells("limit 1 if 1>1", 3);
        tells("limit 1 if 0>1", 3);
        tells("limit 1 if 0=1", 3);
        tells("limit 1 if 1=1 or 1/0=1", 1);
        tells("limit 1 if 1=0 or 1/0=1", 3);
        tells("limit 1 if 1/0=1 or 1=1", 3);
        tells("limit 1 if 1=0 and 1/0=1 or 1=1", 1);
        tells("limit 1 if 1=1 and 1/0=1 or 1=1", 3);
        tells("limit 1 if not (1=0 and 1/0=1)", 1);
        tells("limit 1 if not (1=1 and 1/0=1)", 3);
        tells("limit 1 if 1=1 or 1=1 and 1/0=1", 1);
        tells("limit 1 if 1=0 or 1=1 or 1/0=1", 1);
        tells("limit 1 if not (1=1 and 1=0 and 1/0=1)", 1);
        tells("limit 1 if 1=1 or 1/0=1 or 1/0=2", 1);
        tells("limit 1 if not (1=0 and 1/0=1 and 1/0=2)", 1);
        tells("limit 1 if not not 1=1", 1);
        tells("limit 1 if not 1=1 or 1=1", 1);
        tells("limit 1 if 1=1 or 1=0 and 1=0", 1);
        tells("limit 1 if (1=1 or 1=0) and 1=0", 3);
    }

    private static void lastClause() {
        Bound.by("II", "Told by a HEAD is what the last CLAUSE with it that HOLDS tells.");
        tells("limit 1;limit 2", 2);
        tells("limit 2;limit 1", 1);
        tells("limit 1;limit 2 if 1=0", 1);
        tells("limit 1;limit 2/0", 1);
        tells("limit 1;limit 2 if 1/0=0", 1);
        tells("limit 1;cost 2;free;hidden", 1);
        tells("cost 2;free;hidden", 3);
        tells("limit 5;" + "limit 1 if 1=0;".repeat(10) + "limit 2 if 1=0", 5);
        tells("limit 0;".repeat(11) + "limit 7", 7);
        tells("limit 0", 0);
        tells("limit 4;limit 0", 0);
        tells("limit 1/0;limit 2", 2);
        tells("limit 2;limit 1/0;limit 1 if 1/0=1", 2);
        tells("limit 1000*1000*1000*2;limit 2", 2);
        tells("limit 1 if 1/0=1;limit 2", 2);
        tells("limit 1;" + "limit 1/0;".repeat(10) + "limit 2 if 1=0", 1);

        Bound.by("II", "What it is not asked of is 0.");
        tells("limit 2 if thing=0 and place=0 and colour=0 and sort=0 and coat=0 and person=0", 2);
        tells("limit thing+place+colour+sort+coat+person", 0);
        ThreeColours town = Due.under("cost 7 if window=0 and place=0 and month=0 and minute=0 and coat=0 and person=0");
        town.window(1, 1, 1);
        town.window(1, 1, 1);
        town.thing(1, 1, 2, 50, 0);
        town.person(3);
        town.walk(0, 0, 1);
        town.month(5);
        town.sees(1, 9, 0);
        Bound.due("a cost", town.costs(0, 2), 7);
        town = Due.under("free if place=0 and coat=0 and person=0;free if coat=1 and thing=0 and sort=0");
        town.person(1);
        town.person(3);
        town.thing(3, 2, 2, 0, 0);
        town.thing(3, 4, 4, 0, 0);
        town.window(3, 1023, 0);
        town.walk(1, 0, 9);
        Bound.due("a thing has no place, coat, person; one of the people no thing, sort", town.sees(0, 0, 0), 0);
    }

    private static void limits() {
        Bound.by("II", "The LIMIT of a WINDOW (asked of window, month, minute): what \"limit\" tells, 0 .. 8 (else the nearest), 3 without.");
        tells("free", 3);
        tells("limit 0", 0);
        tells("limit 0-1", 0);
        tells("limit 0-1000", 0);
        tells("limit 1", 1);
        tells("limit 7", 7);
        tells("limit 8", 8);
        tells("limit 9", 8);
        tells("limit 1000", 8);
        tells("limit window", 2);
        tells("limit month", 7);
        tells("limit minute/8", 5);
        ThreeColours town = Due.under("limit window+[month-9]+[minute-117]");
        for (int window = 0; window < 8; window++) {
            town.window(0, 0, 0);
        }
        town.month(11);
        Bound.due("window 7 in month 11 at minute 119", town.sees(7, 119, 1), 8);
        Bound.due("window 4 in month 11 at minute 119", town.sees(4, 119, 1), 8);
        Bound.due("window 3 in month 11 at minute 119", town.sees(3, 119, 1), 7);
        Bound.due("window 0 in month 11 at minute 115", town.sees(0, 115, 1), 0);
        Bound.due("window 0 in month 11 at minute 116", town.sees(0, 116, 1), 1);
        Bound.due("window 0 in month 11 at minute 0", town.sees(0, 0, 1), 0);
        Bound.due("without a law", new ThreeColours().sees(0, 0, 1), -1);
        town.force(-1);
        Bound.due("none in force", town.sees(7, 119, 1), 3);
    }

    private static int price(String law, int colour) {
        ThreeColours town = Due.under(law);
        for (int i = 0; i < 10; i++) {
            town.thing(3, 1, 2, 44, 0);
        }
        return town.costs(9, colour);
    }

    private static void prices() {
        Bound.by("II", "Painting a THING (thing, sort, colour: the new one) costs what \"cost\" tells, 0 .. 99 (else the nearest), "
                + "its COST without.");
        Bound.due("without", price("free", 2), 44);
        Bound.due("0", price("cost 0", 2), 0);
        Bound.due("-1", price("cost 0-1", 2), 0);
        Bound.due("99", price("cost 99", 2), 99);
        Bound.due("100", price("cost 100", 2), 99);
        Bound.due("a thousand million", price("cost 1000*1000*1000", 2), 99);
        Bound.due("one more is broken", price("cost 1000*1000*1000+1", 2), 44);
        Bound.due("thing, sort, the new colour", price("cost thing*8+sort*3+colour", 7), 72 + 9 + 7);
        Bound.due("colour 0", price("cost colour", 0), 0);
        Bound.due("the last that holds", price("cost 5;cost 6 if colour=3", 2), 5);
        Bound.due("not what another head tells", price("limit 5", 2), 44);
        ThreeColours town = new ThreeColours();
        town.thing(0, 1, 2, 0, 0);
        town.thing(0, 1, 2, 99, 0);
        Bound.due("cost 0 by itself", town.costs(0, 2), 0);
        Bound.due("cost 99 by itself", town.costs(1, 2), 99);
    }

    private static void hiddenAndFree() {
        Bound.by("II", "A THING is \"hidden\" from a WINDOW, its colour is \"free\", if a CLAUSE with that HOLDS (window, thing, colour it "
                + "shows, sort, month, minute); one of the PEOPLE likewise (window, place, colour of the COAT, month, minute, coat 1, "
                + "person). What is free does not count.");
        for (String head : new String[] {"hidden", "free"}) {
            ThreeColours town = Due.under(head + " if window=7 and thing=9 and colour=7 and sort=3 and month=11 and minute=119;"
                    + head + " if window=7 and place=9 and colour=6 and month=11 and minute=119 and coat=1 and person=4");
            for (int i = 0; i < 10; i++) {
                town.thing(3, i == 9 ? 7 : 0, 0, 0, 0);
            }
            for (int i = 0; i < 8; i++) {
                town.window(1 << 9, 1 << 9, 0);
            }
            for (int i = 0; i < 5; i++) {
                town.person(6);
            }
            town.month(11);
            town.walk(4, 0, 9);
            int both = 1 << 7 | 1 << 6;
            Bound.due(head + ": all at their highest", town.sees(7, 119, 0), 0);
            Bound.due(head + ": minute 118", town.sees(7, 118, 0), both);
            Bound.due(head + ": window 6", town.sees(6, 119, 0), both);
            town.month(10);
            Bound.due(head + ": month 10", town.sees(7, 119, 0), both);
            town.month(11);
            town.put(9, 0, 2);
            Bound.due(head + ": sort 2", town.sees(7, 119, 0), 1 << 7);
            town.put(9, 0, 3);
            town.put(9, 1, 5);
            Bound.due(head + ": colour 5", town.sees(7, 119, 0), 1 << 5);
            town.bloom(9, 1 << 11, 7);
            Bound.due(head + ": the colour it shows", town.sees(7, 119, 0), 0);
            town.coat(4, 3);
            Bound.due(head + ": another coat", town.sees(7, 119, 0), 1 << 3);
            town.coat(4, 6);
            town.walk(3, 0, 9);
            Bound.due(head + ": another one", town.sees(7, 119, 0), 1 << 6);
            town.walk(3, 0, -1);
            town.turn(7, 1, 1 << 8);
            town.walk(4, 0, 8);
            Bound.due(head + ": another place", town.sees(7, 119, 0), 1 << 6);
            town.turn(7, 0, 1 << 8);
            town.put(8, 1, 7);
            Bound.due(head + ": another thing", town.sees(7, 119, 0), both);
        }
        ThreeColours town = Due.under("free if colour=1;limit 0");
        town.thing(0, 1, 1, 0, 0);
        town.window(1, 0, 0);
        Bound.due("what is free does not count", town.sees(0, 0, 2), 1);
        town = Due.under("free if 1/0=1;hidden if 1/0=1");
        town.thing(0, 1, 1, 0, 0);
        town.window(1, 0, 0);
        Bound.due("a broken clause does not hold", town.sees(0, 0, 0), 2);
        town = Due.under("free if colour=2");
        town.thing(0, 2, 2, 0, 0);
        town.thing(0, 1, 1, 0, 0);
        town.window(1, 0, 0);
        town.same(1, 2, 1);
        Bound.due("free is the colour it shows, not the lowest that counts as one with it", town.sees(0, 0, 0), 0);
        town.turn(0, 0, 2);
        Bound.due("and no other that counts as one with it", town.sees(0, 0, 0), 1 << 1);
        town = Due.under("free;free if 1=0");
        town.thing(0, 1, 1, 0, 0);
        town.window(1, 0, 0);
        Bound.due("one clause that holds is enough", town.sees(0, 0, 0), 0);
    }

    /** A WINDOW that sees so many colours. */
    private static ThreeColours seeing(String law, int colours) {
        ThreeColours town = Due.under(law);
        for (int i = 0; i < colours; i++) {
            town.thing(0, i, i, 0, 0);
        }
        town.window(1023, 1023, 0);
        return town;
    }

    private static void seenAndHolds() {
        Bound.by("II", "SEEN from a WINDOW in a MONTH at a MINUTE are the colours that count of all that it looks at and that is not hidden: "
                + "each told by the lowest that counts as one with it.");
        Bound.due("nothing", seeing("limit 8", 0).sees(0, 0, 0), 0);
        Bound.due("all colours", seeing("limit 8", 8).sees(0, 0, 0), 255);
        ThreeColours town = seeing("limit 8", 8);
        town.same(7, 0, 1);
        Bound.due("7 counts as 0", town.sees(0, 0, 0), 127);
        town.put(0, 1, 1);
        Bound.due("told by 0, though 0 is not there", town.sees(0, 0, 0), 127);
        for (int colour = 1; colour < 8; colour++) {
            town.same(0, colour, 1);
        }
        Bound.due("all count as one", town.sees(0, 0, 0), 1);
        town = new ThreeColours();
        town.thing(0, 3, 0, 0, 0);
        town.thing(0, 3, 0, 0, 0);
        town.person(3);
        town.walk(0, 0, 0);
        town.window(3, 1, 0);
        Bound.due("the same one thrice", town.sees(0, 0, 0), 1 << 3);

        Bound.by("II", "It HOLDS, if there are no more than its LIMIT.");
        for (int limit = 0; limit <= 8; limit++) {
            for (int colours = 0; colours <= 8; colours++) {
                Bound.due(colours + " colours, limit " + limit, seeing("limit " + limit, colours).sees(0, 0, 2),
                        colours <= limit ? 1 : 0);
            }
        }
        for (int colours = 2; colours < 5; colours++) {
            Bound.due(colours + " colours without a limit told", seeing("cost 1", colours).sees(0, 0, 2), colours <= 3 ? 1 : 0);
        }
    }

    private static void costs() {
        Bound.by(23, "What painting a THING in a colour would cost (0, if it has that).");
        ThreeColours town = Towns.full();
        town.force(-1);
        Bound.due("the last thing in grey", town.costs(9, 0), 9);
        Bound.due("in the highest colour", town.costs(9, 7), 9);
        Bound.due("in the colour it has", town.costs(9, 1), 0);
        town = Due.under("cost 5");
        town.thing(0, 0, 1, 9, 0);
        Bound.due("a law's cost", town.costs(0, 7), 5);
        Bound.due("nothing by a law either, if it has that", town.costs(0, 0), 0);
        town.bloom(0, 4095, 3);
        Bound.due("in bloom it still has its colour", town.costs(0, 0), 0);
        Bound.due("and not the bloom's", town.costs(0, 3), 5);

        Bound.by(23, "NONE.");
        Bound.asks("costs", Towns::busy, new int[] {0, 1}, new int[][] {{0, 3}, {0, 7}}, -1, (it, n) -> it.costs(n[0], n[1]));
        Bound.asks("costs", Towns::full, new int[] {0, 1}, new int[][] {{0, 9}, {0, 7}}, -1, (it, n) -> it.costs(n[0], n[1]));
        Bound.leaves("thing 0 of none", Towns::empty, -1, it -> it.costs(0, 0));
    }

    /** What one WINDOW sees at one MINUTE is not what its neighbours see, or it sees a MINUTE later. */
    private static void eachByItself() {
        ThreeColours town = Due.under("limit [minute+window*3]-[minute+window*3]/9*9;hidden if thing=window and minute-minute/2*2=0;"
                + "free if place=window and person=minute-minute/2*2");
        for (int i = 0; i < 8; i++) {
            town.thing(0, i % 3 + 1, 0, 0, 0);
        }
        for (int i = 0; i < 8; i++) {
            town.window(1 << i, 1 << i, 0);
        }
        town.person(6);
        town.person(7);
        town.walk(0, 0, 3);
        town.walk(1, 0, 4);
        for (int minute : new int[] {0, 1, 2, 7, 8, 117, 118, 119}) {
            int odd = minute % 2;
            for (int window = 0; window < 8; window++) {
                int things = odd == 0 ? 0 : 1 << window % 3 + 1;
                int coats = window == 3 && odd == 1 ? 1 << 6 : window == 4 && odd == 0 ? 1 << 7 : 0;
                Bound.due("window " + window + " at " + minute, town.sees(window, minute, 0), things | coats);
                Bound.due("limit of " + window + " at " + minute, town.sees(window, minute, 1), (minute + 3 * window) % 9);
            }
        }
        town = Due.under("free if window+place+person*3=9;hidden if window*3+place=person*3+1");
        for (int i = 0; i < 8; i++) {
            town.window(0, 1023 - (1 << i), 0);
        }
        for (int i = 0; i < 5; i++) {
            town.person(i + 2);
            for (int minute = 0; minute < 10; minute++) {
                town.walk(i, minute, (i + minute) % 10);
            }
        }
        for (int minute = 0; minute < 10; minute++) {
            for (int window = 0; window < 8; window++) {
                int due = 0;
                for (int i = 0; i < 5; i++) {
                    int place = (i + minute) % 10;
                    boolean counts = window + place + i * 3 != 9 && window * 3 + place != i * 3 + 1;
                    due |= place != window && counts ? 1 << i + 2 : 0;
                }
                Bound.due("people from window " + window + " at " + minute, town.sees(window, minute, 0), due);
            }
        }
    }

    private static void sees() {
        Bound.by(24, "SEEN in the MONTH at a MINUTE (what 0, as bits), the LIMIT (1), whether it HOLDS (2; 1, 0).");
        ThreeColours town = Due.under("limit 1 if window=7 and minute=119;limit 2 if window=7 and minute<119");
        for (int i = 0; i < 8; i++) {
            town.window(1, 1, 0);
        }
        town.thing(0, 7, 0, 0, 0);
        town.person(0);
        town.walk(0, 0, 0);
        Bound.due("at minute 0", town.sees(7, 0, 0), 1 << 7 | 1);
        Bound.due("its limit", town.sees(7, 0, 1), 2);
        Bound.due("it holds", town.sees(7, 0, 2), 1);
        Bound.due("at minute 119", town.sees(7, 119, 0), 1 << 7 | 1);
        Bound.due("its limit", town.sees(7, 119, 1), 1);
        Bound.due("it does not hold", town.sees(7, 119, 2), 0);
        town.walk(0, 119, -1);
        Bound.due("one goes home at 119", town.sees(7, 119, 0), 1 << 7);
        Bound.due("it holds", town.sees(7, 119, 2), 1);
        Bound.due("at 118 nobody is gone yet", town.sees(7, 118, 0), 1 << 7 | 1);
        eachByItself();

        Bound.by(24, "NONE.");
        Bound.asks("sees", Towns::busy, new int[] {1, 50, 0}, new int[][] {{0, 2}, {0, 119}, {0, 2}}, -1,
                (it, n) -> it.sees(n[0], n[1], n[2]));
        Bound.asks("sees", Towns::full, new int[] {1, 50, 0}, new int[][] {{0, 7}, {0, 119}, {0, 2}}, -1,
                (it, n) -> it.sees(n[0], n[1], n[2]));
        Bound.leaves("window 0 of none", Towns::empty, -1, it -> it.sees(0, 0, 0));
    }

    /** Eight WINDOWS that look at one PLACE each and hold nobody there; the last looks at PLACE 9. */
    private static ThreeColours guarded() {
        ThreeColours town = Due.under("limit 0");
        for (int i = 0; i < 8; i++) {
            town.window(0, 1 << (i == 7 ? 9 : i), 0);
        }
        town.person(1);
        town.person(2);
        return town;
    }

    private static void judge() {
        Bound.by(25, "In the MONTH by WALKS: the first MINUTE in which a WINDOW does not HOLD (what 0; NONE), the first such WINDOW of that "
                + "MINUTE (1; NONE), in how many MINUTES one does not, of all WINDOWS together (2).");
        ThreeColours town = guarded();
        int[][] due = {{-1, -1, 0}, {119, 7, 1}, {118, 0, 3}, {0, 3, 121}, {0, 1, 239}};
        for (int step = 0; step < due.length; step++) {
            switch (step) {
                case 1: town.walk(0, 119, 9); break;
                case 2: town.walk(1, 118, 0); break;
                case 3: town.walk(1, 0, 3); break;
                case 4: town.walk(0, 0, 1); town.walk(0, 119, -1); break;
                default: break;
            }
            for (int what = 0; what < 3; what++) {
                Bound.due("step " + step + ", judge(" + what + ")", town.judge(what), due[step][what]);
            }
        }
        town = Due.under("limit 0");
        for (int i = 0; i < 8; i++) {
            town.window(1, 0, 0);
        }
        town.thing(0, 0, 0, 0, 0);
        Bound.due("all of them always: the minute", town.judge(0), 0);
        Bound.due("the window", town.judge(1), 0);
        Bound.due("in 120 minutes eight", town.judge(2), 960);
        town = new ThreeColours();
        Bound.due("no window: no minute", town.judge(0), -1);
        Bound.due("no window", town.judge(1), -1);
        Bound.due("in none", town.judge(2), 0);
        town = seeing("limit 8;limit 0 if month=11", 1);
        Bound.due("in month 0 it holds", town.judge(2), 0);
        town.month(11);
        Bound.due("in month 11 it does not", town.judge(2), 120);

        Bound.by(25, "NONE.");
        Supplier<ThreeColours> failing = () -> {
            ThreeColours it = guarded();
            it.walk(0, 7, 2);
            return it;
        };
        Bound.asks("judge", failing, new int[] {0}, new int[][] {{0, 2}}, -1, (it, n) -> it.judge(n[0]));
    }

    private static void bad() {
        Bound.by(26, "In how many MINUTES of the MONTH a WINDOW does not HOLD.");
        ThreeColours town = guarded();
        Bound.due("in none", town.bad(7), 0);
        town.walk(0, 119, 9);
        Bound.due("in the last", town.bad(7), 1);
        Bound.due("another one in none", town.bad(6), 0);
        town.walk(0, 0, 9);
        town.walk(0, 1, -1);
        Bound.due("in the first and the last", town.bad(7), 2);
        town.walk(1, 0, 9);
        Bound.due("in all", town.bad(7), 120);
        town = seeing("limit 8;limit 0 if month=11 and minute>0", 1);
        Bound.due("in month 0 in none", town.bad(0), 0);
        town.month(11);
        Bound.due("in month 11 in all but the first", town.bad(0), 119);

        Bound.by(26, "NONE.");
        Bound.asks("bad", Towns::busy, new int[] {1}, new int[][] {{0, 2}}, -1, (it, n) -> it.bad(n[0]));
        Bound.asks("bad", Towns::full, new int[] {1}, new int[][] {{0, 7}}, -1, (it, n) -> it.bad(n[0]));
        Bound.leaves("window 0 of none", Towns::empty, -1, it -> it.bad(0));
    }

    /** Eight WINDOWS with a LIMIT of one colour that look at the same two THINGS. */
    private static ThreeColours pair(int one, int other) {
        ThreeColours town = Due.under("limit 1");
        town.thing(0, one, 0, 0, 0);
        town.thing(0, other, 0, 0, 0);
        for (int i = 0; i < 8; i++) {
            town.window(3, 1023, 0);
        }
        return town;
    }

    private static void near(ThreeColours town, String what, int one, int other, int windows) {
        Bound.due(what + ": near(0)", town.near(0), one);
        Bound.due(what + ": near(1)", town.near(1), other);
        Bound.due(what + ": near(2)", town.near(2), windows);
    }

    private static void nearest() {
        Bound.by("III", "NEAR: of two colours that do not count as one yet those by which, counted as one, the fewest WINDOWS do not HOLD in "
                + "the MONTH at MINUTE 0, nobody out, as all is painted now; the first by both.");
        for (int one = 0; one < 8; one++) {
            for (int other = one + 1; other < 8; other++) {
                near(pair(one, other), "two things", one, other, 0);
                near(pair(other, one), "two things", one, other, 0);
            }
        }
        near(pair(5, 5), "the first of all, as all hold", 0, 1, 0);
        ThreeColours town = pair(2, 7);
        town.thing(0, 4, 0, 0, 0);
        town.turn(3, 0, 0b110);
        town.turn(5, 0, 0b111);
        near(town, "six of eight hold then", 2, 7, 2);
        town.same(2, 7, 1);
        near(town, "now the other two", 2, 4, 0);
        town.same(0, 7, 1);
        near(town, "the first by both of those that count as 2 or 7", 0, 4, 0);
        town = pair(2, 7);
        town.bloom(0, 1 << 11, 7);
        town.month(11);
        near(town, "in the month all hold", 0, 1, 0);
        town.month(10);
        town.person(4);
        town.walk(0, 0, 0);
        near(town, "nobody out", 2, 7, 0);
        town = Due.under("limit 1 if minute=0;limit 0 if minute=1");
        town.thing(0, 2, 0, 0, 0);
        town.window(1, 0, 0);
        near(town, "at minute 0", 0, 1, 0);
        town = Due.under("limit 1;hidden if minute=0 and thing=1;free if minute=0 and thing=2");
        town.thing(0, 2, 0, 0, 0);
        town.thing(0, 3, 0, 0, 0);
        town.thing(0, 4, 0, 0, 0);
        town.window(7, 0, 0);
        near(town, "what is hidden, what is free at minute 0", 0, 1, 0);
        town = Due.under("limit 1;hidden if minute=1 and thing=1;free if minute=1 and thing=1");
        town.thing(0, 2, 0, 0, 0);
        town.thing(0, 3, 0, 0, 0);
        town.window(3, 0, 0);
        near(town, "not what is hidden, what is free at minute 1", 2, 3, 0);
        town = Due.under("limit 1 if minute=0;limit 0 if minute=1");
        town.thing(0, 2, 0, 0, 0);
        town.window(1, 0, 0);
        town.put(0, 2, 7);
        town.thing(0, 3, 5, 0, 0);
        town.turn(0, 0, 3);
        near(town, "as all is painted now, not as wished", 2, 3, 0);
        town = Due.under("limit 0");
        town.thing(0, 2, 0, 0, 0);
        for (int i = 0; i < 8; i++) {
            town.window(1, 0, 0);
        }
        near(town, "eight never hold", 0, 1, 8);
    }

    private static void near() {
        Bound.by(35, "NEAR: one (what 0), the other one (1), how many WINDOWS do not HOLD then (2).");
        near(new ThreeColours(), "nothing there", 0, 1, 0);
        near(pair(6, 7), "the last two", 6, 7, 0);
        ThreeColours town = new ThreeColours();
        for (int colour = 0; colour < 6; colour++) {
            town.same(colour, colour + 1, 1);
        }
        near(town, "seven count as one", 0, 7, 0);
        town.same(0, 1, 0);
        near(town, "six count as one", 0, 1, 0);

        Bound.by(35, "NONE.");
        Bound.asks("near", Towns::busy, new int[] {0}, new int[][] {{0, 2}}, -1, (it, n) -> it.near(n[0]));
        Bound.asks("near", Towns::full, new int[] {0}, new int[][] {{0, 2}}, -1, (it, n) -> it.near(n[0]));
        Supplier<ThreeColours> one = () -> {
            ThreeColours it = new ThreeColours();
            for (int colour = 0; colour < 7; colour++) {
                it.same(colour, colour + 1, 1);
            }
            return it;
        };
        for (int what = 0; what < 3; what++) {
            int asked = what;
            Bound.leaves("all count as one: near(" + what + ")", one, -1, it -> it.near(asked));
        }
    }
}
