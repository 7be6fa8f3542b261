/** Promises 23 to 26 and 35: what LAWS tell, what painting costs, what WINDOWS see, which two colours are NEAR. */
public final class SightTest {
    public static void main(String[] args) {
        costs();
        sees();
        people();
        limits();
        sums();
        tests();
        clauses();
        hiddenAndFree();
        judging();
        near();
        Due.finish();
    }

    private static void costs() {
        ThreeColours town = new ThreeColours();
        Due.due("23: no thing", town.costs(0, 0), -1);
        town.thing(2, 3, 4, 17, 0);
        Due.due("23: its cost", town.costs(0, 4), 17);
        Due.due("23: grey, too", town.costs(0, 0), 17);
        Due.due("23: it has that", town.costs(0, 3), 0);
        Due.due("23: colour 8", town.costs(0, 8), -1);
        Due.due("23: colour -1", town.costs(0, -1), -1);
        Due.due("23: thing 1", town.costs(1, 0), -1);
        Due.due("23: thing -1", town.costs(-1, 0), -1);
        town.bloom(0, 1, 5);
        Due.due("23: in bloom it is painted as it was", town.costs(0, 3), 0);
        Due.due("23: the bloom's colour is another one", town.costs(0, 5), 17);
        town = Due.under("cost thing*10+sort*3+colour; cost 99+1 if colour=7; cost 0-1 if colour=6;"
                + "cost 50 if window+month+minute+place+coat+person>0; cost 7/thing if colour=5");
        town.month(6);
        town.thing(1, 0, 0, 9, 0);
        town.thing(2, 0, 0, 9, 0);
        town.person(1);
        Due.due("23: thing, sort and the new colour", town.costs(1, 4), 20);
        town.window(3, 1, 0);
        town.window(3, 1, 0);
        town.walk(0, 0, 0);
        Due.due("24: ones and things", town.sees(1, 9, 0), 3);
        Due.due("23: whatever was asked ahead", town.costs(1, 4), 20);
        Due.due("23: thing 0", town.costs(0, 2), 5);
        Due.due("23: it has that, whatever the law", town.costs(1, 0), 0);
        Due.due("23: 99 at most", town.costs(0, 7), 99);
        Due.due("23: 0 at least", town.costs(0, 6), 0);
        Due.due("23: the broken one does not hold", town.costs(0, 5), 8);
        Due.due("23: the last that holds", town.costs(1, 5), 7);
        town = Due.under("cost 5 if colour=1");
        town.thing(0, 0, 0, 33, 0);
        Due.due("23: none holds", town.costs(0, 2), 33);
    }

    private static void sees() {
        ThreeColours town = new ThreeColours();
        Due.due("24: no window", town.sees(0, 0, 0), -1);
        town.window(0b0111, 0, 0);
        Due.due("24: nothing to see", town.sees(0, 0, 0), 0);
        Due.due("24: it holds", town.sees(0, 0, 2), 1);
        town.thing(0, 1, 0, 0, 0);
        town.thing(0, 2, 0, 0, 0);
        town.thing(0, 2, 0, 0, 0);
        town.thing(0, 7, 0, 0, 0);
        Due.due("24: colours once each", town.sees(0, 0, 0), 0b110);
        town.turn(0, 0, 0b1111);
        Due.due("24: three", town.sees(0, 0, 0), 0b10000110);
        Due.due("24: three hold", town.sees(0, 0, 2), 1);
        town.put(0, 1, 0);
        Due.due("24: grey is a colour", town.sees(0, 0, 0), 0b10000101);
        town.thing(0, 3, 0, 0, 0);
        town.turn(0, 0, 0b11111);
        Due.due("24: four do not hold", town.sees(0, 0, 2), 0);
        town.same(3, 7, 1);
        Due.due("24: told by the lowest", town.sees(0, 0, 0), 0b1101);
        Due.due("24: as one they hold", town.sees(0, 0, 2), 1);
        town.bloom(4, 2, 5);
        town.month(1);
        Due.due("24: in bloom", town.sees(0, 0, 0), 0b101101);
        Due.due("24: in bloom it does not hold", town.sees(0, 119, 2), 0);
        Due.due("24: what 3", town.sees(0, 0, 3), -1);
        Due.due("24: what -1", town.sees(0, 0, -1), -1);
        Due.due("24: minute 120", town.sees(0, 120, 0), -1);
        Due.due("24: minute -1", town.sees(0, -1, 0), -1);
        Due.due("24: window 1", town.sees(1, 0, 0), -1);
        Due.due("24: window -1", town.sees(-1, 0, 0), -1);
        Due.due("24: not refused", town.count(6) + town.count(7), 0);
    }

    private static void people() {
        ThreeColours town = new ThreeColours();
        town.window(0, 0b101, 0);
        town.person(4);
        town.person(6);
        town.walk(0, 10, 0);
        town.walk(0, 20, 1);
        town.walk(1, 10, 2);
        town.walk(1, 30, -1);
        Due.due("24: all at home", town.sees(0, 9, 0), 0);
        Due.due("24: both out", town.sees(0, 10, 0), 1 << 4 | 1 << 6);
        Due.due("24: one at a place that it does not look at", town.sees(0, 20, 0), 1 << 6);
        Due.due("24: one at home", town.sees(0, 30, 0), 0);
        town.coat(1, 3);
        Due.due("24: another coat", town.sees(0, 29, 0), 1 << 3);
        town.same(3, 1, 1);
        Due.due("24: coats count as one, too", town.sees(0, 29, 0), 1 << 1);
        town = Due.under("limit 0; limit 8 if coat=1; hidden if thing>0 or sort>0;"
                + "free if person=1 and place=3 and minute=7 and month=2 and window=1 and colour=5 and coat=1");
        town.window(0, 1023, 0);
        town.window(0, 1023, 0);
        town.person(5);
        town.person(5);
        town.walk(1, 0, 3);
        town.month(2);
        Due.due("24: free", town.sees(1, 7, 0), 0);
        Due.due("24: free holds", town.sees(1, 7, 2), 1);
        Due.due("24: another minute", town.sees(1, 8, 0), 32);
        Due.due("24: another window", town.sees(0, 7, 0), 32);
        Due.due("24: it does not hold", town.sees(0, 7, 2), 0);
        town.month(3);
        Due.due("24: another month", town.sees(1, 7, 0), 32);
        town.month(2);
        town.walk(1, 7, 4);
        Due.due("24: another place", town.sees(1, 7, 0), 32);
        town.walk(1, 7, 3);
        town.walk(0, 7, 3);
        Due.due("24: another one", town.sees(1, 7, 0), 32);
        town.walk(0, 7, -1);
        town.coat(1, 4);
        Due.due("24: another colour", town.sees(1, 7, 0), 16);
        Due.due("24: a limit is asked of no coat", town.sees(1, 7, 1), 0);
    }

    private static int limit(String law) {
        ThreeColours town = Due.under(law);
        town.thing(1, 1, 1, 1, 1);
        for (int window = 0; window < 3; window++) {
            town.window(1023, 1023, 0);
        }
        town.person(2);
        town.walk(0, 0, 2);
        town.month(7);
        return town.sees(2, 40, 1);
    }

    private static void limits() {
        Due.due("24: three without", limit("cost 9"), 3);
        Due.due("24: eight at most", limit("limit 9"), 8);
        Due.due("24: eight at most", limit("limit 1000*1000"), 8);
        Due.due("24: nought at least", limit("limit 0-1"), 0);
        Due.due("24: by window", limit("limit window"), 2);
        Due.due("24: by month", limit("limit month"), 7);
        Due.due("24: by minute", limit("limit minute/8"), 5);
        Due.due("24: the rest is 0", limit("limit thing+place+colour+sort+coat+person"), 0);
        Due.due("24: none holds", limit("limit 1 if month=6"), 3);
        Due.due("24: the last that holds", limit("limit 1;limit 2;limit 4 if month=6"), 2);
        Due.due("24: the last, not the greatest", limit("limit 6;limit 1"), 1);
        ThreeColours town = Due.under("limit minute");
        town.window(0, 0, 0);
        for (int minute = 0; minute < 12; minute++) {
            Due.due("24: minute " + minute, town.sees(0, minute, 1), Math.min(minute, 8));
        }
        town.thing(0, 1, 0, 0, 0);
        town.turn(0, 0, 1);
        Due.due("24: limit 0 does not hold", town.sees(0, 0, 2), 0);
        Due.due("24: limit 1 does", town.sees(0, 1, 2), 1);
    }

    private static void sums() {
        Due.due("II: * ahead of +", limit("limit 1+2*3"), 7);
        Due.due("II: from the left", limit("limit 9-3-2"), 4);
        Due.due("II: from the left", limit("limit 16/4/2"), 2);
        Due.due("II: * and / from the left", limit("limit 7/2*2"), 6);
        Due.due("II: brackets", limit("limit [1+2]*2"), 6);
        Due.due("II: brackets", limit("limit 9-[3-2]"), 8);
        Due.due("II: cut towards 0", limit("limit [0-7]/2+5"), 2);
        Due.due("II: cut towards 0", limit("limit 7/[0-2]+5"), 2);
        Due.due("II: / below 0 both", limit("limit [0-7]/[0-2]"), 3);
        Due.due("II: a thousand million is not beyond", limit("limit 1000*1000*1000/1000/1000/200"), 5);
        Due.due("II: one more is", limit("limit [1000*1000*1000+1]/1000/1000/200"), 3);
        Due.due("II: nor is it below", limit("limit [0-1000*1000*1000]/1000/1000/200+7"), 2);
        Due.due("II: one less is", limit("limit [0-1000*1000*1000-1]/1000/1000/200+7"), 3);
        Due.due("II: beyond on the way is beyond", limit("limit 1000*1000*1000*2/1000/1000/1000"), 3);
        Due.due("II: far beyond", limit("limit 1000*1000*1000*[1000*1000*1000]"), 3);
        Due.due("II: divided by 0", limit("limit 1/0"), 3);
        Due.due("II: 0 divided by 0", limit("limit 0/thing"), 3);
        Due.due("II: a broken one tells nothing, an earlier one does", limit("limit 2;limit 1/0"), 2);
        Due.due("II: 0 times broken", limit("limit 5;limit 0*[1/0]"), 5);
    }

    private static void tests() {
        Due.due("II: <", limit("limit 1 if 1<2"), 1);
        Due.due("II: <", limit("limit 1 if 2<2"), 3);
        Due.due("II: >", limit("limit 1 if 3>2"), 1);
        Due.due("II: >", limit("limit 1 if 2>2"), 3);
        Due.due("II: =", limit("limit 1 if 2=2"), 1);
        Due.due("II: =", limit("limit 1 if 2=3"), 3);
        Due.due("II: not", limit("limit 1 if not 2=3"), 1);
        Due.due("II: not binds the next alone", limit("limit 1 if not 1=2 and 1=2"), 3);
        Due.due("II: and ahead of or", limit("limit 1 if 1=1 or 1=1 and 1=2"), 1);
        Due.due("II: and ahead of or", limit("limit 1 if 1=2 and 1=1 or 1=1"), 1);
        Due.due("II: brackets", limit("limit 1 if (1=1 or 1=1) and 1=2"), 3);
        Due.due("II: not a bracket", limit("limit 1 if not (1=1 or 1/0=1)"), 3);
        Due.due("II: or does not ask what can't matter", limit("limit 1 if 1=1 or 1/0=1"), 1);
        Due.due("II: or asks the first", limit("limit 1 if 1/0=1 or 1=1"), 3);
        Due.due("II: or asks the second", limit("limit 1 if 1=2 or 1/0=1"), 3);
        Due.due("II: and does not ask what can't matter", limit("limit 1 if not (1=2 and 1/0=1)"), 1);
        Due.due("II: and asks the second", limit("limit 1 if not (1=1 and 1/0=1)"), 3);
        Due.due("II: not of a broken one is broken", limit("limit 1 if not 1/0=1"), 3);
        Due.due("II: the third of three", limit("limit 1 if 1=2 or 1=3 or 1=1"), 1);
        Due.due("II: the second of three settles it", limit("limit 1 if 1=2 or 1=1 or 1/0=1"), 1);
        Due.due("II: and of three", limit("limit 1 if 1=1 and 2=2 and 3=4"), 3);
        Due.due("II: an and that is not so, then or", limit("limit 1 if 1=2 and 1/0=1 or 2=2"), 1);
        Due.due("II: an or within an and", limit("limit 1 if (1=2 or 2=2) and (1=1 or 1/0=0)"), 1);
        Due.due("II: a sum is not asked if the test is not so", limit("limit 1/0 if 1=2"), 3);
        Due.due("II: sums on both sides", limit("limit 1 if 2*3-1=[9+1]/2"), 1);
        Due.due("II: below 0", limit("limit 1 if 0-5<0-4"), 1);
    }

    private static void clauses() {
        // Heads are apart: a limit says nothing about a cost.
        ThreeColours town = Due.under("limit 5;cost 6;limit 4 if 1=2;cost 8 if 1=2");
        town.thing(0, 1, 2, 3, 4);
        town.window(1, 0, 0);
        Due.due("II: limit", town.sees(0, 0, 1), 5);
        Due.due("II: cost", town.costs(0, 2), 6);
        Due.due("II: neither hidden nor free", town.sees(0, 0, 0), 2);
    }

    private static void hiddenAndFree() {
        for (String head : new String[] {"hidden", "free"}) {
            ThreeColours town = Due.under(head + " if window=1 and thing=2 and colour=3 and sort=1 and month=4 and minute=5"
                    + " and place=0 and coat=0 and person=0");
            town.thing(1, 3, 0, 0, 0);
            town.thing(1, 3, 0, 0, 0);
            town.thing(1, 3, 0, 0, 0);
            town.window(7, 0, 0);
            town.window(4, 0, 0);
            town.window(7, 0, 0);
            town.month(4);
            Due.due("24: " + head, town.sees(1, 5, 0), 0);
            Due.due("24: other minute, " + head, town.sees(1, 4, 0), 8);
            Due.due("24: other window, " + head, town.sees(0, 5, 0), 8);
            town.turn(1, 0, 7);
            Due.due("24: other things, " + head, town.sees(1, 5, 0), 8);
            town.turn(1, 0, 4);
            town.put(2, 0, 2);
            Due.due("24: other sort, " + head, town.sees(1, 5, 0), 8);
            town.put(2, 0, 1);
            town.month(5);
            Due.due("24: other month, " + head, town.sees(1, 5, 0), 8);
            town.month(4);
            town.put(2, 1, 2);
            Due.due("24: other colour, " + head, town.sees(1, 5, 0), 4);
            town.bloom(2, 1 << 4, 3);
            Due.due("24: the colour it shows, " + head, town.sees(1, 5, 0), 0);
            town.put(2, 1, 3);
            town.bloom(2, 1 << 4, 1);
            Due.due("24: not the colour it hides, " + head, town.sees(1, 5, 0), 2);
        }
        // A colour is free as it is, not as what it counts as.
        ThreeColours town = Due.under("free if colour=2");
        town.thing(0, 2, 0, 0, 0);
        town.thing(0, 4, 0, 0, 0);
        town.window(3, 0, 0);
        town.same(2, 4, 1);
        Due.due("24: four counts as two, but is not free", town.sees(0, 0, 0), 4);
        town.put(1, 1, 2);
        Due.due("24: both are free", town.sees(0, 0, 0), 0);
        town = Due.under("free if 1=2;hidden");
        town.thing(0, 2, 0, 0, 0);
        town.window(1, 1, 0);
        town.person(1);
        town.walk(0, 0, 0);
        Due.due("24: all is hidden", town.sees(0, 0, 0), 0);
        town = Due.under("hidden if 1/0=1;free if coat=1");
        town.thing(0, 2, 0, 0, 0);
        town.window(1, 1, 0);
        town.person(1);
        town.walk(0, 0, 0);
        Due.due("24: coats are free", town.sees(0, 0, 0), 4);
    }

    private static void judging() {
        ThreeColours town = new ThreeColours();
        Due.due("25: no window", town.judge(0), -1);
        Due.due("25: no window", town.judge(1), -1);
        Due.due("25: no window", town.judge(2), 0);
        Due.due("26: no window", town.bad(0), -1);
        ThreeColours other = Due.under("limit 0 if minute>11");
        other.thing(0, 1, 0, 0, 0);
        other.window(1, 0, 0);
        Due.due("26: ahead of any judge", other.bad(0), 108);
        Due.law(town, "limit 1");
        town.force(0);
        town.thing(0, 1, 0, 0, 0);
        town.window(0, 0, 0);
        town.window(1, 2, 0);
        town.window(1, 6, 0);
        town.person(2);
        town.person(1);
        Due.due("25: all hold", town.judge(0), -1);
        Due.due("25: all hold", town.judge(1), -1);
        Due.due("25: all hold", town.judge(2), 0);
        town.walk(0, 100, 1);
        town.walk(0, 110, 2);
        town.walk(1, 0, 1);
        Due.due("25: the first minute", town.judge(0), 100);
        Due.due("25: the first window", town.judge(1), 1);
        Due.due("25: of all windows together", town.judge(2), 10 + 20);
        Due.due("26: window 0", town.bad(0), 0);
        Due.due("26: window 1", town.bad(1), 10);
        Due.due("26: window 2", town.bad(2), 20);
        Due.due("26: window 3", town.bad(3), -1);
        Due.due("26: window -1", town.bad(-1), -1);
        Due.due("25: what 3", town.judge(3), -1);
        Due.due("25: what -1", town.judge(-1), -1);
        town.walk(0, 50, 2);
        Due.due("25: a window further on, but earlier", town.judge(0), 50);
        Due.due("25: it", town.judge(1), 2);
        town.walk(0, 110, -1);
        Due.due("25: home again", town.judge(2), 10 + 60);
        town.bloom(0, 1, 2);
        town.coat(1, 2);
        Due.due("25: in bloom as the coats", town.judge(2), 0);
        town.month(1);
        Due.due("25: in another month", town.judge(2), 120 + 120);
        Due.due("26: in another month", town.bad(1), 120);
        Due.due("26: in another month", town.bad(2), 120);
    }

    private static void near() {
        ThreeColours town = Due.under("limit 1");
        Due.due("35: of all", town.near(0), 0);
        Due.due("35: of all", town.near(1), 1);
        Due.due("35: none fails", town.near(2), 0);
        Due.due("35: what 3", town.near(3), -1);
        Due.due("35: what -1", town.near(-1), -1);
        int[] colours = {3, 5, 6};
        for (int colour : colours) {
            town.thing(0, colour, 0, 0, 0);
        }
        town.window(0b011, 0, 0);
        town.window(0b101, 0, 0);
        town.window(0b101, 0, 0);
        town.window(0b110, 0, 0);
        Due.due("35: three and", town.near(0), 3);
        Due.due("35: six", town.near(1), 6);
        Due.due("35: two fail", town.near(2), 2);
        town.same(3, 6, 1);
        Due.due("35: those count as one; now three and", town.near(0), 3);
        Due.due("35: five", town.near(1), 5);
        Due.due("35: none fails", town.near(2), 0);
        town.same(1, 5, 1);
        Due.due("35: the first by both: one and", town.near(0), 1);
        Due.due("35: three", town.near(1), 3);
        town.person(0);
        town.window(0, 1023, 0);
        town.turn(4, 0, 1);
        town.walk(0, 0, 0);
        Due.due("35: nobody out", town.near(2), 0);
        town.bloom(0, 2, 7);
        town.month(1);
        Due.due("35: in the month: three and", town.near(0), 3);
        Due.due("35: seven", town.near(1), 7);
        Due.due("35: two windows fail", town.near(2), 2);
        for (int colour = 1; colour < 8; colour++) {
            town.same(0, colour, 1);
        }
        Due.due("35: all count as one", town.near(0), -1);
        Due.due("35: all count as one", town.near(1), -1);
        Due.due("35: all count as one", town.near(2), -1);
        town = Due.under("limit 1 if minute=0; free if colour=2 and minute=0");
        town.thing(0, 1, 0, 0, 0);
        town.thing(0, 2, 0, 0, 0);
        town.window(3, 0, 0);
        Due.due("35: at minute 0", town.near(2), 0);
        Due.due("35: what is free does not count", town.near(1), 1);
        town.thing(0, 3, 0, 0, 0);
        town.thing(0, 4, 0, 0, 0);
        town.turn(0, 0, 15);
        Due.due("35: the limit at minute 0", town.near(2), 1);
    }
}
