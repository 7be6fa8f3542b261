/** Promises 36 to 40: WAYS, FILES and DAYS. */
public final class WayTest {
    public static void main(String[] args) {
        plainWays();
        windowsOnTheWay();
        firstWays();
        lateMinutes();
        wrongWays();
        files();
        wrongFiles();
        days();
        daysByWindows();
        Due.finish();
    }

    private static void row(ThreeColours town, int person, int minute, int from, int to, int... places) {
        Due.due("36: soonest", town.soon(person, minute, from, to), minute + places.length - 1);
        Due.due("37: ahead of it", town.way(person, minute, from, to, minute - 1), -1);
        for (int i = 0; i < places.length; i++) {
            Due.due("37: step " + i, town.way(person, minute, from, to, minute + i), places[i]);
        }
        Due.due("37: behind it", town.way(person, minute, from, to, minute + places.length), -1);
    }

    private static void none(ThreeColours town, int person, int minute, int from, int to) {
        Due.due("36: none", town.soon(person, minute, from, to), -1);
        Due.due("37: none", town.way(person, minute, from, to, minute), -1);
        Due.due("37: none", town.way(person, minute, from, to, -1), -1);
    }

    private static void plainWays() {
        ThreeColours town = new ThreeColours();
        town.person(1);
        none(town, 0, 0, 0, 1);
        row(town, 0, 5, 3, 3, 3);
        for (int place = 0; place < 9; place++) {
            town.street(place, place + 1, 1);
        }
        row(town, 0, 0, 0, 9, 0, 1, 2, 3, 4, 5, 6, 7, 8, 9);
        row(town, 0, 7, 9, 7, 9, 8, 7);
        row(town, 0, 30, 2, 0, 2, 1, 0);
        // One after the other, without a change in between.
        town.person(2);
        Due.due("36: of one at a minute", town.soon(0, 1, 0, 2), 3);
        Due.due("36: of another one a minute sooner", town.soon(1, 0, 0, 2), 2);
        Due.due("36: a minute later", town.soon(1, 1, 0, 2), 3);
        Due.due("36: from the next", town.soon(1, 1, 1, 2), 2);
        Due.due("36: to the next", town.soon(1, 1, 1, 3), 3);
        town.street(9, 2, 1);
        row(town, 0, 0, 0, 9, 0, 1, 2, 9);
        town.street(2, 9, 0);
        town.street(4, 5, 0);
        none(town, 0, 0, 0, 9);
    }

    private static void windowsOnTheWay() {
        // A WINDOW looks at PLACE 1 and sees one colour from MINUTE 3 to 5; one colour is its LIMIT then.
        ThreeColours town = Due.under("limit 1 if minute>2 and minute<6;limit 0 if minute=90");
        town.person(1);
        town.person(2);
        town.street(0, 1, 1);
        town.street(1, 2, 1);
        town.window(0, 0b10, 0);
        town.walk(1, 0, 1);
        row(town, 0, 0, 0, 2, 0, 1, 2);
        row(town, 0, 1, 0, 2, 0, 1, 2);
        Due.due("36: at minute 3 place 1 is shut, it waits", town.soon(0, 2, 0, 2), 7);
        row(town, 0, 2, 0, 2, 0, 0, 0, 0, 1, 2);
        none(town, 0, 3, 1, 2);
        row(town, 0, 3, 0, 0, 0);
        row(town, 0, 2, 1, 2, 1, 2);
        none(town, 0, 90, 1, 1);
        row(town, 0, 91, 1, 1, 1);
        none(town, 0, 4, 1, 1);
        // A coat of the same colour may go.
        town.coat(0, 2);
        row(town, 0, 2, 0, 2, 0, 1, 2);
        town.coat(0, 1);
        town.same(1, 2, 1);
        row(town, 0, 2, 0, 2, 0, 1, 2);
        town.same(1, 2, 0);
        // A WINDOW that does not look at where it is need not HOLD.
        town.window(0, 0b1000, 0);
        town.person(3);
        town.person(4);
        town.person(5);
        town.walk(2, 0, 3);
        town.walk(3, 0, 3);
        Due.due("24: it does not hold", town.sees(1, 4, 2), 0);
        row(town, 0, 2, 0, 2, 0, 0, 0, 0, 1, 2);
        // Its own WALKS do not count.
        town.walk(0, 0, 1);
        row(town, 0, 2, 0, 2, 0, 0, 0, 0, 1, 2);
        town.walk(1, 0, -1);
        row(town, 0, 2, 0, 2, 0, 1, 2);
        row(town, 4, 2, 0, 2, 0, 0, 0, 0, 1, 2);
        town.walk(0, 0, -1);
        row(town, 4, 2, 0, 2, 0, 1, 2);
        // THINGS count, in the MONTH.
        town.thing(0, 6, 0, 0, 0);
        town.bloom(0, 2, 1);
        town.turn(0, 0, 1);
        row(town, 0, 2, 0, 2, 0, 0, 0, 0, 1, 2);
        town.month(1);
        row(town, 0, 2, 0, 2, 0, 1, 2);
        // A LAW may hide or free one.
        town = Due.under("limit 0; hidden if person=1; free if place=1 and minute=1");
        town.person(1);
        town.person(1);
        town.street(0, 1, 1);
        town.street(1, 2, 1);
        town.window(0, 0b10, 0);
        row(town, 1, 5, 0, 2, 0, 1, 2);
        row(town, 0, 0, 0, 2, 0, 1, 2);
        none(town, 0, 1, 0, 2);
    }

    private static void firstWays() {
        ThreeColours town = new ThreeColours();
        town.person(0);
        int[][] streets = {{5, 9}, {5, 2}, {9, 0}, {2, 8}, {0, 7}, {8, 6}, {7, 6}};
        for (int[] street : streets) {
            town.street(street[0], street[1], 1);
        }
        row(town, 0, 0, 5, 6, 5, 2, 8, 6);
        town.street(5, 0, 1);
        row(town, 0, 0, 5, 6, 5, 0, 7, 6);
        // It waits where the row is lowest: first at 0, and goes at once where the next is lower.
        town = Due.under("limit 8;limit 0 if minute<5");
        town.person(0);
        town.window(0, 1 << 4, 0);
        town.street(3, 4, 1);
        town.street(3, 1, 1);
        town.street(1, 4, 1);
        row(town, 0, 0, 3, 4, 3, 1, 1, 1, 1, 4);
        town.street(3, 0, 1);
        row(town, 0, 0, 3, 4, 3, 0, 0, 0, 1 + 2, 4);
        town.street(0, 4, 1);
        row(town, 0, 0, 3, 4, 3, 0, 0, 0, 0, 4);
        // It may not come too late for its turn: a place that leads nowhere in time is not taken.
        town = new ThreeColours();
        town.person(0);
        town.street(5, 0, 1);
        town.street(5, 6, 1);
        town.street(6, 7, 1);
        row(town, 0, 0, 5, 7, 5, 6, 7);
    }

    private static void lateMinutes() {
        ThreeColours town = new ThreeColours();
        town.person(0);
        town.street(0, 1, 1);
        town.street(1, 2, 1);
        row(town, 0, 117, 0, 2, 0, 1, 2);
        none(town, 0, 118, 0, 2);
        row(town, 0, 118, 0, 1, 0, 1);
        none(town, 0, 119, 0, 1);
        row(town, 0, 119, 0, 0, 0);
        Due.law(town, "limit 8;limit 0 if minute<119");
        town.force(0);
        town.window(0, 0b10, 0);
        Due.due("36: it may wait to the last minute", town.soon(0, 0, 0, 1), 119);
        Due.due("37: it waits", town.way(0, 0, 0, 1, 118), 0);
        Due.due("37: it goes", town.way(0, 0, 0, 1, 119), 1);
        Due.due("37: minute 120", town.way(0, 0, 0, 1, 120), -1);
        none(town, 0, 0, 0, 2);
    }

    private static void wrongWays() {
        ThreeColours town = new ThreeColours();
        town.person(0);
        town.street(0, 1, 1);
        int[][] wrong = {{1, 0, 0, 1}, {-1, 0, 0, 1}, {0, -1, 0, 1}, {0, 120, 0, 1}, {0, 0, -1, 1}, {0, 0, 10, 1},
            {0, 0, 0, -1}, {0, 0, 0, 10}, {0, Integer.MIN_VALUE, 0, 1}, {0, Integer.MAX_VALUE, 0, 0}};
        for (int[] row : wrong) {
            Due.due("36: wrong", town.soon(row[0], row[1], row[2], row[3]), -1);
            Due.due("37: wrong", town.way(row[0], row[1], row[2], row[3], row[1]), -1);
        }
        Due.due("37: at far off", town.way(0, 0, 0, 1, Integer.MAX_VALUE), -1);
        Due.due("37: at far below", town.way(0, 0, 0, 1, Integer.MIN_VALUE), -1);
        Due.due("37: at 1", town.way(0, 0, 0, 1, 1), 1);
        Due.due("36: not refused", town.count(6) + town.count(7), 0);
    }

    private static void files() {
        ThreeColours town = new ThreeColours();
        Due.due("38: nobody, one order", town.file(1, 1, -1), 1);
        Due.due("38: nobody is the first", town.file(1, 1, 0), -1);
        ThreeColours lone = new ThreeColours();
        lone.person(3);
        Due.due("38: one alone", lone.file(8, 1, -1), 1);
        Due.due("38: is the first", lone.file(8, 1, 0), 0);
        int[] coats = {1, 2, 1, 2, 1};
        for (int coat : coats) {
            town.person(coat);
        }
        Due.due("38: any order", town.file(1, 1, -1), 120);
        Due.due("38: any order", town.file(8, 2, -1), 120);
        Due.due("38: no two neighbours of two colours", town.file(2, 1, -1), 0);
        Due.due("38: none", town.file(2, 1, 0), -1);
        Due.due("38: of all, if there are fewer", town.file(8, 1, -1), 0);
        for (int i = 0; i < 5; i++) {
            Due.due("38: the first as they are", town.file(3, 2, i), i);
        }
        town.coat(1, 3);
        // Coats 1 3 1 2 1: of any three at most two colours, so 2 and 3 stand three apart at least.
        Due.due("38: 2 and 3 three or four apart", town.file(3, 2, -1), 6 * 2 * (2 + 1));
        int[] first = {0, 1, 2, 4, 3};
        for (int i = 0; i < 5; i++) {
            Due.due("38: the first", town.file(3, 2, i), first[i]);
        }
        Due.due("38: four apart", town.file(4, 2, -1), 6 * 2);
        int[] far = {1, 0, 2, 4, 3};
        for (int i = 0; i < 5; i++) {
            Due.due("38: the first of them", town.file(4, 2, i), far[i]);
        }
        Due.due("38: of five too many", town.file(5, 2, -1), 0);
        Due.due("38: of eight, all", town.file(8, 2, -1), 0);
        Due.due("38: three colours go", town.file(8, 3, -1), 120);
        town.same(2, 3, 1);
        Due.due("38: counted as one", town.file(8, 2, -1), 120);
        Due.law(town, "free;hidden");
        town.force(0);
        Due.due("38: none is free", town.file(8, 1, -1), 0);
    }

    private static void wrongFiles() {
        ThreeColours town = new ThreeColours();
        town.person(0);
        town.person(0);
        int[][] wrong = {{0, 1, -1}, {9, 1, -1}, {1, 0, -1}, {1, 9, -1}, {-1, 1, -1}, {1, -1, -1}, {1, 1, 2}, {1, 1, -2},
            {Integer.MIN_VALUE, 1, 0}, {1, Integer.MAX_VALUE, 0}, {1, 1, Integer.MAX_VALUE}, {1, 1, Integer.MIN_VALUE}};
        for (int[] row : wrong) {
            Due.due("38: wrong", town.file(row[0], row[1], row[2]), -1);
        }
        Due.due("38: highest", town.file(8, 8, -1), 2);
        Due.due("38: the second", town.file(8, 8, 1), 1);
    }

    private static void days() {
        ThreeColours town = new ThreeColours();
        Due.due("40: no day", town.drawn(0, 0), -1);
        Due.due("39: nobody", town.day(0), 0);
        Due.due("40: nobody", town.drawn(0, 0), -1);
        for (int seed : new int[] {0, 1, 77, 999_999, 1_000_000}) {
            town = ring();
            Due.due("39: no window", town.day(seed), 0);
            long s = seed;
            int[] at = new int[3];
            for (int minute = 0; minute < 120; minute++) {
                for (int person = 0; person < 3; person++) {
                    s = (s * 1103 + 12345) % 1_000_003;
                    if (minute == 0) {
                        at[person] = (int) (s % 10);
                    } else {
                        int[] next = nextTo(at[person]);
                        int draw = (int) (s % (next.length + 1));
                        at[person] = draw == 0 ? at[person] : next[draw - 1];
                    }
                    Due.due("40: where one was", town.drawn(person, minute), at[person]);
                }
            }
        }
        Due.due("39: seed -1", town.day(-1), -1);
        Due.due("39: status", town.status(), -1);
        Due.due("39: seed too high", town.day(1_000_001), -1);
        Due.due("40: the day stays", town.drawn(0, 0), (int) ((1_000_000L * 1103 + 12345) % 1_000_003 % 10));
        Due.due("40: minute 120", town.drawn(0, 120), -1);
        Due.due("40: minute -1", town.drawn(0, -1), -1);
        Due.due("40: person -1", town.drawn(-1, 0), -1);
        town.person(0);
        Due.due("40: one who came later", town.drawn(3, 0), -1);
        Due.due("39: with the fourth", town.day(0), 0);
        Due.holds("40: the fourth", town.drawn(3, 0) >= 0);
        Due.due("39: status then", town.status(), 0);
    }

    /** Three PEOPLE, and STREETS round all PLACES and across. */
    private static ThreeColours ring() {
        ThreeColours town = new ThreeColours();
        town.person(0);
        town.person(0);
        town.person(0);
        for (int one = 0; one < 10; one++) {
            town.street(one, (one + 1) % 10, 1);
            town.street(one, (one + 4) % 10, one % 2);
        }
        return town;
    }

    /** The PLACES next to one in the town of ring(), by their numbers. */
    private static int[] nextTo(int place) {
        int[] all = new int[10];
        int n = 0;
        for (int other = 0; other < 10; other++) {
            boolean ring = (place + 1) % 10 == other || (other + 1) % 10 == place;
            boolean cross = place % 2 == 1 && (place + 4) % 10 == other || other % 2 == 1 && (other + 4) % 10 == place;
            if (ring || cross) {
                all[n] = other;
                n++;
            }
        }
        return java.util.Arrays.copyOf(all, n);
    }

    private static void daysByWindows() {
        ThreeColours town = Due.under("limit 0 if window=0;limit 1 if window=1");
        town.window(0, 1023, 0);
        town.window(1, 1023, 0);
        town.thing(0, 1, 1, 0, 0);
        town.person(1);
        town.person(1);
        Due.due("39: one window in each minute", town.day(5), 120);
        town.coat(1, 2);
        Due.due("39: both", town.day(5), 240);
        town.bloom(0, 2, 2);
        town.coat(0, 2);
        town.month(1);
        Due.due("39: in the month", town.day(5), 120);
        town.walk(0, 0, -1);
        Due.due("39: walks are left aside", town.day(5), 120);
        Due.due("15: and stay", town.where(0, 0), -1);
        // Without streets all stay where the first draws put them: 5 and 1 for the seed 0.
        Due.due("39: seed 0", town.day(0), 120);
        Due.due("40: place", town.drawn(0, 119), 5);
        Due.due("40: place", town.drawn(1, 119), 1);
        town.turn(0, 1, 1 << 5);
        Due.due("39: it looks at place 5", town.day(0), 120);
        town.turn(0, 1, 1 << 6);
        Due.due("39: it looks at place 6", town.day(0), 0);
        Due.law(town, "limit 0 if window=0 and minute>99;hidden if person=1");
        town.force(1);
        town.turn(0, 1, 1 << 1);
        Due.due("39: one is hidden", town.day(0), 0);
        town.turn(0, 1, 1 << 5);
        Due.due("39: twenty minutes", town.day(0), 20);
        Due.due("25: not by walks", town.judge(2), 0);
    }
}
