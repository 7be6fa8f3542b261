/** Promises 41 to 44: IMAGES, what is counted, status. */
public final class ImageTest {
    public static void main(String[] args) {
        images();
        whatImagesKeep();
        whatImagesDoNotKeep();
        twoImages();
        answersAfterBack();
        counts();
        refusals();
        statuses();
        Due.finish();
    }

    private static ThreeColours full() {
        ThreeColours town = new ThreeColours();
        town.thing(1, 2, 3, 4, 5);
        town.window(6, 7, 8);
        town.person(1);
        town.street(1, 2, 1);
        town.same(1, 2, 1);
        town.month(3);
        town.walk(0, 4, 5);
        Due.law(town, "limit 1");
        town.force(0);
        return town;
    }

    private static void images() {
        ThreeColours town = new ThreeColours();
        Due.due("42: not kept", town.back(0), -2);
        Due.due("42: status", town.status(), -2);
        Due.due("41: kept", town.image(0), 0);
        Due.due("41: status", town.status(), 0);
        Due.due("42: image 1 not kept", town.back(1), -2);
        Due.due("42: back", town.back(0), 0);
        Due.due("42: images stay", town.back(0), 0);
        for (int k : new int[] {-1, 2, Integer.MAX_VALUE, Integer.MIN_VALUE}) {
            Due.due("41: image " + k, town.image(k), -1);
            Due.due("42: image " + k, town.back(k), -1);
        }
        Due.due("41: the highest", town.image(1), 0);
        Due.due("42: the highest", town.back(1), 0);
    }

    private static void whatImagesKeep() {
        ThreeColours town = full();
        town.image(1);
        town.put(0, 1, 7);
        town.put(0, 5, 1);
        town.bloom(0, 4095, 6);
        town.thing(0, 0, 0, 0, 0);
        town.turn(0, 0, 1);
        town.turn(0, 1, 1);
        town.turn(0, 2, 1);
        town.window(0, 0, 0);
        town.coat(0, 4);
        town.person(0);
        town.street(1, 2, 0);
        town.street(8, 9, 1);
        town.same(1, 2, 0);
        town.same(6, 7, 1);
        town.month(9);
        town.walk(0, 0, 1);
        Due.law(town, "limit 2");
        town.force(1);
        Due.due("42: back", town.back(1), 0);
        Due.due("42: things", town.count(0), 1);
        int[] thing = {1, 2, 3, 4, 5, 0, 0, 0, 2};
        for (int what = 0; what < thing.length; what++) {
            Due.due("42: of the thing " + what, town.of(0, what), thing[what]);
        }
        Due.due("42: windows", town.count(1), 1);
        Due.due("42: people", town.count(2), 1);
        Due.due("42: laws", town.count(3), 1);
        Due.due("42: walks", town.count(4), 1);
        Due.due("42: the law in force", town.count(11), 0);
        Due.due("42: the month", town.count(12), 3);
        Due.due("42: the limit", town.sees(0, 0, 1), 1);
        Due.due("42: where", town.where(0, 0), -1);
        Due.due("42: where", town.where(0, 4), 5);
        Due.due("42: colours", town.counts(2), 1);
        Due.due("42: colours", town.counts(7), 7);
        Due.due("42: told", town.same(1, 2, 1), 1);
        Due.due("42: not told", town.same(6, 7, 0), 0);
        Due.due("42: street", town.street(1, 2, 1), 1);
        Due.due("42: no street", town.street(8, 9, 0), 0);
        Due.due("42: the coat", town.coat(0, 1), 1);
        Due.due("42: looks at things", town.turn(0, 0, 6), 6);
        Due.due("42: looks at places", town.turn(0, 1, 7), 7);
        Due.due("42: shut", town.turn(0, 2, 8), 8);
        // A THING that comes in the room of one that went has nothing of it.
        town.thing(0, 1, 1, 0, 0);
        town.put(1, 5, 1);
        town.bloom(1, 4095, 6);
        town.back(1);
        Due.due("42: a new one", town.thing(2, 2, 2, 2, 2), 1);
        Due.due("42: need not", town.of(1, 5), 0);
        Due.due("42: does not bloom", town.of(1, 6), 0);
        Due.due("42: no bloom colour", town.of(1, 7), 0);
        // An IMAGE does not change with the town that went back to it.
        town.put(0, 1, 6);
        town.walk(0, 50, 2);
        town.back(1);
        Due.due("42: the image is as it was", town.of(0, 1), 2);
        Due.due("42: the image is as it was", town.count(4), 1);
        Due.due("42: a law comes again", Due.law(town, "limit 7"), 1);
        town.force(1);
        Due.due("42: it is the new one", town.sees(0, 0, 1), 7);
    }

    private static void whatImagesDoNotKeep() {
        ThreeColours town = full();
        town.feed(1, 2, 3, 4, 5);
        town.image(0);
        town.feed(1, 2, 3, 4, 5);
        town.back(0);
        Due.due("42: the tape stays", town.count(5), 40);
        town.end(0);
        Due.law(town, "limit");
        town.back(0);
        Due.due("42: fault stays", town.fault(), 5);
        Due.tape(town, "\t\t");
        town.row();
        town.back(0);
        Due.due("42: spoilt stays", town.spoilt(), 1);
        town.person(0);
        town.day(0);
        int place = town.drawn(1, 7);
        Due.holds("40: the second one", place >= 0);
        town.back(0);
        Due.due("42: the latest day stays", town.drawn(1, 7), place);
        Due.due("42: one of the people", town.count(2), 1);
        Due.due("43: refused stays", town.count(10), 1);
        town.month(12);
        town.back(0);
        Due.due("43: images do not keep that", town.count(6), 1);
    }

    private static void twoImages() {
        ThreeColours town = new ThreeColours();
        town.month(1);
        town.image(0);
        town.month(2);
        town.image(1);
        town.month(3);
        town.back(0);
        Due.due("42: image 0", town.count(12), 1);
        town.back(1);
        Due.due("42: image 1", town.count(12), 2);
        town.image(0);
        town.month(5);
        town.back(0);
        Due.due("41: kept anew", town.count(12), 2);
        // Two images with different laws of the same number.
        town = new ThreeColours();
        town.window(0, 0, 0);
        town.image(0);
        Due.law(town, "limit 6");
        town.force(0);
        town.image(1);
        town.back(0);
        Due.due("42: no law", town.count(3), 0);
        Due.law(town, "limit 7");
        town.force(0);
        Due.due("42: another law 0", town.sees(0, 0, 1), 7);
        town.back(1);
        Due.due("42: the law 0 that was kept", town.sees(0, 0, 1), 6);
        // The same with walks.
        town = new ThreeColours();
        town.person(0);
        town.image(0);
        town.walk(0, 5, 6);
        town.image(1);
        town.back(0);
        town.walk(0, 7, 8);
        Due.due("42: another walk", town.where(0, 9), 8);
        town.back(1);
        Due.due("42: the walk that was kept", town.where(0, 9), 6);
        Due.due("42: from its minute on", town.where(0, 5), 6);
    }

    /** What was worked out ahead of going back is not answered any more. */
    private static void answersAfterBack() {
        ThreeColours town = new ThreeColours();
        town.thing(0, 1, 2, 1, 5);
        town.window(1, 1, 0);
        town.person(3);
        town.image(0);
        Due.due("27: value", town.best(1, 1), 4);
        Due.due("25: none", town.judge(0), -1);
        Due.due("36: open", town.soon(0, 0, 0, 0), 0);
        Due.due("35: near", town.near(2), 0);
        Due.due("31: mend", town.mend(1, -1), 0);
        Due.law(town, "limit 0");
        town.force(0);
        Due.due("27: nothing", town.best(1, 1), -10000);
        Due.due("25: at once", town.judge(0), 0);
        Due.due("36: not open", town.soon(0, 0, 0, 0), -1);
        Due.due("35: near", town.near(2), 1);
        Due.due("32: walled up", town.shut(1), 1);
        town.back(0);
        Due.due("42: value", town.best(1, 1), 4);
        Due.due("42: none", town.judge(0), -1);
        Due.due("42: open", town.soon(0, 0, 0, 0), 0);
        Due.due("42: near", town.near(2), 0);
        Due.due("42: nothing walled up", town.shut(1), 0);
    }

    private static void counts() {
        ThreeColours town = full();
        int[] due = {1, 1, 1, 1, 1, 0, 0, 0, 0, 0, 0, 0, 3};
        for (int what = 0; what < due.length; what++) {
            Due.due("43: " + what, town.count(what), due[what]);
        }
        town.feed(0, 0, 0, 0, 0);
        Due.due("43: bytes", town.count(5), 20);
        town.force(-1);
        Due.due("43: no law in force", town.count(11), -1);
        for (int what : new int[] {-1, 13, 14, Integer.MAX_VALUE, Integer.MIN_VALUE}) {
            Due.due("43: " + what, town.count(what), -1);
        }
    }

    private static void refusals() {
        ThreeColours town = new ThreeColours();
        town.month(12);
        town.month(13);
        town.put(0, 0, 0);
        town.street(1, 1, 1);
        town.same(1, 1, 1);
        town.row();
        town.law();
        for (int i = 0; i < 6; i++) {
            town.person(0);
        }
        town.back(0);
        int[] due = {2, 2, 2, 1, 2};
        for (int i = 0; i < due.length; i++) {
            Due.due("43: refused by the " + i + "-th", town.count(6 + i), due[i]);
        }
        // Answers of NONE of the calls that can't be REFUSED do not count.
        town.of(9, 9);
        town.counts(9);
        town.where(9, 9);
        town.end(-1);
        town.costs(9, 9);
        town.sees(9, 9, 9);
        town.judge(9);
        town.bad(9);
        town.best(0, 0);
        town.paint(0, 0);
        town.fewest(0, 0);
        town.mend(0, 0);
        town.shut(0);
        town.bars(0);
        town.third(0, 0);
        town.near(9);
        town.soon(9, 9, 9, 9);
        town.way(9, 9, 9, 9, 9);
        town.file(9, 9, 9);
        town.drawn(9, 9);
        town.count(99);
        for (int i = 0; i < due.length; i++) {
            Due.due("43: still, by the " + i + "-th", town.count(6 + i), due[i]);
        }
        Due.due("44: still", town.status(), -2);
    }

    private static void statuses() {
        ThreeColours town = new ThreeColours();
        Due.due("44: ahead of any", town.status(), 0);
        int[] got = {town.thing(4, 0, 0, 0, 0), town.status(), town.thing(0, 0, 0, 0, 0), town.status(),
            town.put(1, 0, 0), town.status(), town.put(0, 0, 0), town.status(),
            town.bloom(1, 0, 0), town.status(), town.bloom(0, 0, 0), town.status(),
            town.window(-1, 0, 0), town.status(), town.window(0, 0, 0), town.status(),
            town.turn(1, 0, 0), town.status(), town.turn(0, 0, 0), town.status(),
            town.street(1, 1, 0), town.status(), town.street(0, 1, 0), town.status(),
            town.person(8), town.status(), town.person(0), town.status(),
            town.coat(1, 0), town.status(), town.coat(0, 0), town.status(),
            town.same(0, 0, 0), town.status(), town.same(0, 1, 0), town.status(),
            town.month(12), town.status(), town.month(0), town.status(),
            town.walk(1, 0, 0), town.status(), town.walk(0, 0, -1) - 1, town.status(),
            town.law(), town.status(), Due.law(town, "free"), town.status(),
            town.force(1), town.status(), town.force(-1) + 1, town.status(),
            town.row(), town.status(), rowOf(town), town.status(),
            town.take(0), town.status(), town.take(1), town.status(),
            town.day(-1), town.status(), town.day(0), town.status(),
            town.image(2), town.status(), town.image(0), town.status(),
            town.back(1), town.status(), town.back(0), town.status()};
        int[] reasons = {-1, -2, -2, -1, -2, -3, -1, -2, -3, -1, -2, -6, -2, -6, -1, -1, -1, -2};
        for (int i = 0; i < reasons.length; i++) {
            Due.due("44: refused " + i, got[4 * i], reasons[i]);
            Due.due("44: status " + i, got[4 * i + 1], reasons[i]);
            Due.due("44: granted " + i, got[4 * i + 2], 0);
            Due.due("44: status then " + i, got[4 * i + 3], 0);
        }
        town.month(12);
        town.best(1, 0);
        town.feed(0, 0, 0, 0, 0);
        town.end(0);
        town.spoilt();
        town.fault();
        town.counts(0);
        Due.due("44: calls of other kinds leave it", town.status(), -1);
        for (int i = 0; i < 10; i++) {
            town.thing(0, 0, 0, 0, 0);
        }
        Due.due("44: no room", town.status(), -5);
    }

    private static int rowOf(ThreeColours town) {
        Due.tape(town, "\t\t\t");
        return town.row();
    }
}
