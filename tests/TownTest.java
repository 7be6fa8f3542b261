/** Promises 1 to 15: what a town is made of. */
public final class TownTest {
    private static final int[] WILD = {-1, -2, 1 << 30, Integer.MAX_VALUE, Integer.MIN_VALUE};

    public static void main(String[] args) {
        newObject();
        things();
        putting();
        blooms();
        windows();
        turning();
        ofThings();
        streets();
        people();
        coats();
        sameColours();
        months();
        walks();
        whereabouts();
        Due.finish();
    }

    private static void newObject() {
        ThreeColours town = new ThreeColours();
        for (int what = 0; what <= 10; what++) {
            Due.due("1: count(" + what + ") of a new town", town.count(what), 0);
        }
        Due.due("1: no law in force", town.count(11), ThreeColours.NONE);
        Due.due("1: the month", town.count(12), 0);
        Due.due("1: status", town.status(), 0);
        Due.due("1: fault", town.fault(), ThreeColours.NONE);
        Due.due("1: spoilt", town.spoilt(), 0);
        Due.due("1: NONE", ThreeColours.NONE, -1);
        for (int colour = 0; colour < 8; colour++) {
            Due.due("1: each colour counts by itself", town.counts(colour), colour);
        }
        for (int one = 0; one < 10; one++) {
            Due.due("1: no street", town.street(one, (one + 3) % 10, 0), 0);
        }
        Due.due("1: no image 0", town.back(0), -2);
        Due.due("1: no image 1", town.back(1), -2);
        Due.due("1: no day", town.drawn(0, 0), -1);
        ThreeColours other = new ThreeColours();
        town.thing(0, 0, 0, 0, 0);
        Due.due("1: objects are apart", other.count(0), 0);
    }

    private static void things() {
        ThreeColours town = new ThreeColours();
        Due.due("2: lowest", town.thing(0, 0, 0, 0, 0), 0);
        Due.due("2: highest", town.thing(3, 7, 7, 99, 99), 1);
        Due.due("2: sort 4", town.thing(4, 0, 0, 0, 0), -1);
        Due.due("2: colour 8", town.thing(0, 8, 0, 0, 0), -1);
        Due.due("2: wished 8", town.thing(0, 0, 8, 0, 0), -1);
        Due.due("2: cost 100", town.thing(0, 0, 0, 100, 0), -1);
        Due.due("2: worth 100", town.thing(0, 0, 0, 0, 100), -1);
        for (int wild : WILD) {
            Due.due("2: sort " + wild, town.thing(wild, 0, 0, 0, 0), -1);
            Due.due("2: colour " + wild, town.thing(0, wild, 0, 0, 0), -1);
            Due.due("2: wished " + wild, town.thing(0, 0, wild, 0, 0), -1);
            Due.due("2: cost " + wild, town.thing(0, 0, 0, wild, 0), -1);
            Due.due("2: worth " + wild, town.thing(0, 0, 0, 0, wild), -1);
        }
        Due.due("2: none of these came", town.count(0), 2);
        for (int i = 2; i < 10; i++) {
            Due.due("2: its number", town.thing(1, 2, 3, 4, 5), i);
        }
        Due.due("2: an eleventh", town.thing(1, 2, 3, 4, 5), -5);
        Due.due("2: -1 ahead of -5", town.thing(1, 2, 3, 4, 500), -1);
        Due.due("2: ten", town.count(0), 10);
    }

    private static void putting() {
        ThreeColours town = new ThreeColours();
        town.thing(1, 2, 3, 4, 5);
        int[] was = {1, 2, 3, 4, 5, 0};
        int[] highest = {3, 7, 7, 99, 99, 1};
        for (int what = 0; what < 6; what++) {
            Due.due("3: what it was " + what, town.put(0, what, highest[what]), was[what]);
            Due.due("3: highest " + what, town.of(0, what), highest[what]);
            Due.due("3: too high " + what, town.put(0, what, highest[what] + 1), -1);
            Due.due("3: too low " + what, town.put(0, what, -1), -1);
            Due.due("3: lowest " + what, town.put(0, what, 0), highest[what]);
            Due.due("3: now " + what, town.of(0, what), 0);
        }
        Due.due("3: what 6", town.put(0, 6, 0), -1);
        Due.due("3: what -1", town.put(0, -1, 0), -1);
        Due.due("3: what far", town.put(0, Integer.MIN_VALUE, 0), -1);
        Due.due("3: no such thing", town.put(1, 0, 0), -2);
        Due.due("3: a thing below 0", town.put(-1, 0, 0), -2);
        Due.due("3: a thing far off", town.put(Integer.MAX_VALUE, 0, 0), -2);
        Due.due("3: -1 ahead of -2", town.put(1, 0, 4), -1);
        Due.due("3: status", town.status(), -1);
    }

    private static void blooms() {
        ThreeColours town = new ThreeColours();
        town.thing(0, 1, 2, 0, 0);
        Due.due("4: none at first", town.of(0, 6), 0);
        Due.due("4: bloom", town.bloom(0, 4095, 7), 0);
        Due.due("4: months", town.of(0, 6), 4095);
        Due.due("4: colour", town.of(0, 7), 7);
        Due.due("4: it shows it", town.of(0, 8), 7);
        Due.due("4: painted as it was", town.of(0, 1), 1);
        Due.due("4: months 4096", town.bloom(0, 4096, 7), -1);
        Due.due("4: months -1", town.bloom(0, -1, 7), -1);
        Due.due("4: colour 8", town.bloom(0, 1, 8), -1);
        Due.due("4: colour -1", town.bloom(0, 1, -1), -1);
        Due.due("4: no thing", town.bloom(1, 1, 1), -2);
        Due.due("4: thing -1", town.bloom(-1, 1, 1), -2);
        Due.due("4: -1 ahead of -2", town.bloom(1, 4096, 1), -1);
        Due.due("4: kept", town.of(0, 6), 4095);
        Due.due("4: none any more", town.bloom(0, 0, 3), 0);
        Due.due("4: shown as painted", town.of(0, 8), 1);
        Due.due("4: bloom colour", town.of(0, 7), 3);
    }

    private static void windows() {
        ThreeColours town = new ThreeColours();
        Due.due("5: lowest", town.window(0, 0, 0), 0);
        Due.due("5: highest", town.window(1023, 1023, 99), 1);
        Due.due("5: things 1024", town.window(1024, 0, 0), -1);
        Due.due("5: places 1024", town.window(0, 1024, 0), -1);
        Due.due("5: shut 100", town.window(0, 0, 100), -1);
        for (int wild : WILD) {
            Due.due("5: things " + wild, town.window(wild, 0, 0), -1);
            Due.due("5: places " + wild, town.window(0, wild, 0), -1);
            Due.due("5: shut " + wild, town.window(0, 0, wild), -1);
        }
        for (int i = 2; i < 8; i++) {
            Due.due("5: its number", town.window(i, i, i), i);
        }
        Due.due("5: a ninth", town.window(0, 0, 0), -5);
        Due.due("5: -1 ahead of -5", town.window(0, 0, 100), -1);
        Due.due("5: eight", town.count(1), 8);
        // A WINDOW looks at a THING that comes later.
        town = new ThreeColours();
        town.window(1 << 3, 0, 0);
        for (int i = 0; i < 4; i++) {
            Due.due("5: nothing there yet", town.sees(0, 0, 0), 0);
            town.thing(0, i + 1, 0, 0, 0);
        }
        Due.due("5: the thing that came later", town.sees(0, 0, 0), 1 << 4);
    }

    private static void turning() {
        ThreeColours town = new ThreeColours();
        town.window(1, 2, 3);
        for (int what = 0; what < 3; what++) {
            int highest = what == 2 ? 99 : 1023;
            Due.due("6: what it was " + what, town.turn(0, what, highest), what + 1);
            Due.due("6: too high " + what, town.turn(0, what, highest + 1), -1);
            Due.due("6: too low " + what, town.turn(0, what, -1), -1);
            Due.due("6: then " + what, town.turn(0, what, 0), highest);
            Due.due("6: lowest " + what, town.turn(0, what, 1), 0);
        }
        Due.due("6: what 3", town.turn(0, 3, 0), -1);
        Due.due("6: what -1", town.turn(0, -1, 0), -1);
        Due.due("6: no window", town.turn(1, 0, 0), -2);
        Due.due("6: window -1", town.turn(-1, 0, 0), -2);
        Due.due("6: -1 ahead of -2", town.turn(8, 2, 100), -1);
        town.thing(0, 5, 5, 0, 0);
        town.thing(0, 6, 6, 0, 0);
        Due.due("6: looks at thing 0", town.sees(0, 0, 0), 1 << 5);
        town.turn(0, 0, 2);
        Due.due("6: looks at thing 1", town.sees(0, 0, 0), 1 << 6);
    }

    private static void ofThings() {
        ThreeColours town = new ThreeColours();
        Due.due("7: no thing", town.of(0, 0), -1);
        town.thing(3, 2, 1, 44, 55);
        town.put(0, 5, 1);
        town.bloom(0, 1 << 4 | 1 << 11, 6);
        int[] due = {3, 2, 1, 44, 55, 1, 1 << 4 | 1 << 11, 6, 2};
        for (int what = 0; what < due.length; what++) {
            Due.due("7: of " + what, town.of(0, what), due[what]);
        }
        for (int month = 0; month < 12; month++) {
            town.month(month);
            Due.due("7: shown in " + month, town.of(0, 8), month == 4 || month == 11 ? 6 : 2);
        }
        Due.due("7: what 9", town.of(0, 9), -1);
        Due.due("7: what -1", town.of(0, -1), -1);
        Due.due("7: thing 1", town.of(1, 0), -1);
        Due.due("7: thing -1", town.of(-1, 0), -1);
        Due.due("7: not refused", town.count(6), 0);
        Due.due("7: status stays", town.status(), 0);
    }

    private static void streets() {
        ThreeColours town = new ThreeColours();
        Due.due("8: a street", town.street(0, 9, 1), 0);
        Due.due("8: both ways", town.street(9, 0, 1), 1);
        Due.due("8: off", town.street(9, 0, 0), 1);
        Due.due("8: is off", town.street(0, 9, 0), 0);
        Due.due("8: place 10", town.street(10, 0, 1), -1);
        Due.due("8: other 10", town.street(0, 10, 1), -1);
        Due.due("8: place -1", town.street(-1, 0, 1), -1);
        Due.due("8: other -1", town.street(0, -1, 1), -1);
        Due.due("8: there 2", town.street(0, 1, 2), -1);
        Due.due("8: there -1", town.street(0, 1, -1), -1);
        Due.due("8: the same one", town.street(3, 3, 1), -3);
        Due.due("8: -1 ahead of -3", town.street(3, 3, 2), -1);
        Due.due("8: -1 of places ahead of -3", town.street(10, 10, 1), -1);
        Due.due("8: status", town.status(), -1);
    }

    private static void people() {
        ThreeColours town = new ThreeColours();
        Due.due("9: coat 8", town.person(8), -1);
        Due.due("9: coat -1", town.person(-1), -1);
        for (int i = 0; i < 5; i++) {
            Due.due("9: its number", town.person(i == 4 ? 7 : i), i);
        }
        Due.due("9: a sixth", town.person(0), -5);
        Due.due("9: -1 ahead of -5", town.person(8), -1);
        Due.due("9: five", town.count(2), 5);
        Due.due("9: the coat", town.coat(4, 0), 7);
    }

    private static void coats() {
        ThreeColours town = new ThreeColours();
        town.person(3);
        Due.due("10: what it was", town.coat(0, 7), 3);
        Due.due("10: then", town.coat(0, 0), 7);
        Due.due("10: colour 8", town.coat(0, 8), -1);
        Due.due("10: colour -1", town.coat(0, -1), -1);
        Due.due("10: nobody", town.coat(1, 0), -2);
        Due.due("10: person -1", town.coat(-1, 0), -2);
        Due.due("10: -1 ahead of -2", town.coat(1, 8), -1);
        Due.due("10: as it was", town.coat(0, 1), 0);
    }

    private static void sameColours() {
        ThreeColours town = new ThreeColours();
        Due.due("11: told", town.same(5, 6, 1), 0);
        Due.due("11: was told, either way", town.same(6, 5, 1), 1);
        Due.due("11: by another", town.same(6, 2, 1), 0);
        Due.due("11: what counts by others was not told", town.same(5, 2, 0), 0);
        Due.due("12: five by six by two", town.counts(5), 2);
        Due.due("12: six", town.counts(6), 2);
        Due.due("12: two", town.counts(2), 2);
        Due.due("12: seven alone", town.counts(7), 7);
        Due.due("11: a ring", town.same(5, 2, 1), 0);
        Due.due("11: one of the ring goes", town.same(5, 6, 0), 1);
        Due.due("11: by others it stays so", town.counts(6), 2);
        Due.due("12: and five", town.counts(5), 2);
        Due.due("11: the last of five's", town.same(2, 5, 0), 1);
        Due.due("12: five alone", town.counts(5), 5);
        Due.due("12: six with two", town.counts(6), 2);
        Due.due("11: colour 8", town.same(8, 0, 1), -1);
        Due.due("11: other 8", town.same(0, 8, 1), -1);
        Due.due("11: colour -1", town.same(-1, 0, 1), -1);
        Due.due("11: other -1", town.same(0, -1, 1), -1);
        Due.due("11: are 2", town.same(0, 1, 2), -1);
        Due.due("11: are -1", town.same(0, 1, -1), -1);
        Due.due("11: the same one", town.same(4, 4, 0), -3);
        Due.due("11: -1 ahead of -3", town.same(4, 4, 2), -1);
        Due.due("12: colour 8", town.counts(8), -1);
        Due.due("12: colour -1", town.counts(-1), -1);
        for (int colour = 0; colour < 7; colour++) {
            town.same(7 - colour, 6 - colour, 1);
        }
        Due.due("12: a chain of all", town.counts(7), 0);
    }

    private static void months() {
        ThreeColours town = new ThreeColours();
        Due.due("13: was 0", town.month(11), 0);
        Due.due("13: was 11", town.month(0), 11);
        Due.due("13: 12", town.month(12), -1);
        Due.due("13: -1", town.month(-1), -1);
        Due.due("13: still 0", town.count(12), 0);
        Due.due("13: status", town.status(), -1);
        town.month(7);
        Due.due("13: count", town.count(12), 7);
        Due.due("13: status then", town.status(), 0);
    }

    private static void walks() {
        ThreeColours town = new ThreeColours();
        Due.due("14: nobody", town.walk(0, 0, 0), -2);
        town.person(0);
        Due.due("14: one", town.walk(0, 0, 0), 1);
        Due.due("14: two", town.walk(0, 119, 9), 2);
        Due.due("14: home", town.walk(0, 5, -1), 3);
        Due.due("14: minute 120", town.walk(0, 120, 0), -1);
        Due.due("14: minute -1", town.walk(0, -1, 0), -1);
        Due.due("14: place 10", town.walk(0, 0, 10), -1);
        Due.due("14: place -2", town.walk(0, 0, -2), -1);
        Due.due("14: person -1", town.walk(-1, 0, 0), -2);
        Due.due("14: person 1", town.walk(1, 0, 0), -2);
        Due.due("14: -1 ahead of -2", town.walk(1, 120, 0), -1);
        for (int i = 4; i <= 60; i++) {
            Due.due("14: so many", town.walk(0, i, 0), i);
        }
        Due.due("14: a 61st", town.walk(0, 0, 0), -5);
        Due.due("14: -2 ahead of -5", town.walk(1, 0, 0), -2);
        Due.due("14: -1 ahead of -5", town.walk(0, 0, 10), -1);
        Due.due("14: sixty", town.count(4), 60);
    }

    private static void whereabouts() {
        ThreeColours town = new ThreeColours();
        Due.due("15: nobody", town.where(0, 0), -1);
        town.person(0);
        town.person(0);
        Due.due("15: at home at first", town.where(0, 0), -1);
        town.walk(0, 50, 3);
        town.walk(0, 10, 4);
        town.walk(0, 100, -1);
        town.walk(1, 20, 7);
        int[][] due = {{0, -1}, {9, -1}, {10, 4}, {49, 4}, {50, 3}, {99, 3}, {100, -1}, {119, -1}};
        for (int[] row : due) {
            Due.due("15: at " + row[0], town.where(0, row[0]), row[1]);
        }
        Due.due("15: the other one", town.where(1, 119), 7);
        Due.due("15: the other one early", town.where(1, 19), -1);
        town.walk(0, 50, 8);
        town.walk(0, 50, 6);
        Due.due("15: of the same minute the last told", town.where(0, 50), 6);
        town.walk(0, 10, 0);
        Due.due("15: an earlier minute told later", town.where(0, 60), 6);
        Due.due("15: the earlier minute", town.where(0, 10), 0);
        Due.due("15: minute 120", town.where(0, 120), -1);
        Due.due("15: minute 120 of one who is out", town.where(1, 120), -1);
        Due.due("15: minute -1", town.where(0, -1), -1);
        Due.due("15: person 2", town.where(2, 50), -1);
        Due.due("15: person -1", town.where(-1, 50), -1);
    }
}
