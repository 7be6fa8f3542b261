import java.util.LinkedHashMap;
import java.util.Map;
import java.util.function.Supplier;

/** IMAGES of part IV of the terms, and promises 41 to 44. */
final class ImageBounds {
    private ImageBounds() {
    }

    static void all() {
        kept();
        others();
        pairs();
        image();
        back();
        count();
        refusals();
        status();
    }

    /** All that IMAGES keep is changed. */
    private static void changeAll(ThreeColours town) {
        town.put(0, 0, 3);
        town.put(0, 1, 7);
        town.put(0, 2, 6);
        town.put(0, 3, 99);
        town.put(0, 4, 99);
        town.put(0, 5, 1);
        town.bloom(0, 4095, 5);
        town.turn(0, 0, 1023);
        town.turn(0, 1, 1023);
        town.turn(0, 2, 99);
        town.coat(0, 3);
        town.street(0, 1, 0);
        town.street(3, 7, 1);
        town.same(3, 4, 0);
        town.same(5, 6, 1);
        town.month(8);
        town.walk(0, 0, 8);
        town.thing(0, 0, 0, 0, 0);
        town.window(0, 0, 0);
        town.person(0);
        town.force(-1);
        town.force(0);
    }

    private static void kept() {
        Bound.by("IV", "IMAGES 0, 1 keep all but the TAPE, FAULT, SPOILT, the latest DAY; BACK to one all that it keeps is as it was then "
                + "(IMAGES stay).");
        for (int k = 0; k < 2; k++) {
            ThreeColours town = Towns.busy();
            town.image(k);
            changeAll(town);
            Bound.due("back", town.back(k), 0);
            ThreeColours twin = Towns.busy();
            twin.image(k);
            Bound.alike("back to image " + k, town, twin);
            // Twice, and once more after an IMAGE of the other number.
            town = Towns.busy();
            town.image(k);
            changeAll(town);
            town.back(k);
            changeAll(town);
            town.image(1 - k);
            town.back(k);
            twin = Towns.busy();
            twin.image(k);
            changeAll(twin);
            twin.image(1 - k);
            twin.back(k);
            Bound.alike("images stay", town, twin);
        }
        ThreeColours town = Towns.busy();
        town.image(1);
        town.row();
        town.feed(-1, -1, -1, -1, -1);
        town.feed(-1, -1, -1, -1, -1);
        town.back(1);
        Bound.due("the tape stays", town.count(5), 40);
        Bound.due("spoilt stays", town.spoilt(), 1);
        town.end(0);
        Due.law(town, "limit x");
        town.back(1);
        Bound.due("fault stays", town.fault(), 6);
        town.person(0);
        town.day(4);
        int place = town.drawn(3, 119);
        Bound.holds("the fourth was drawn", place >= 0);
        town.back(1);
        Bound.due("the latest day stays", town.drawn(3, 119), place);
        Bound.due("though there are three again", town.count(2), 3);
        // Full and empty ones.
        town = new ThreeColours();
        town.image(0);
        town = fill(town);
        town.image(1);
        town.back(0);
        for (int what = 0; what < 5; what++) {
            Bound.due("back to nothing, count(" + what + ")", town.count(what), 0);
        }
        town.back(1);
        int[] due = {10, 8, 5, 6, 60};
        for (int what = 0; what < 5; what++) {
            Bound.due("back to all, count(" + what + ")", town.count(what), due[what]);
        }
        Bound.due("the last thing", town.of(9, 4), 99);
        Bound.due("the last window", town.turn(7, 2, 0), 99);
        Bound.due("the last one's coat", town.coat(4, 0), 7);
        Bound.due("the last walk", town.where(4, 119), 9);
        town.force(5);
        Bound.due("the last law", town.sees(0, 0, 1), 5);
    }

    /** Two IMAGES with as many of everything, but others. */
    private static void others() {
        ThreeColours town = new ThreeColours();
        town.image(1);
        for (int k = 0; k < 2; k++) {
            town.back(1);
            town.thing(k, 1 + k, 3 + k, 5 + k, 7 + k);
            town.window(1 + k, 3 + k, 5 + k);
            town.person(6 + k);
            town.walk(0, 10 + k, 2 + k);
            Due.law(town, "limit " + (4 + k));
            town.force(0);
            town.month(k + 1);
            town.image(k);
        }
        for (int k : new int[] {0, 1, 1, 0}) {
            town.back(k);
            for (int what = 0; what < 5; what++) {
                int[] due = {k, 1 + k, 3 + k, 5 + k, 7 + k};
                Bound.due("image " + k + ": thing", town.of(0, what), due[what]);
            }
            Bound.due("image " + k + ": window", town.turn(0, 0, 0), 1 + k);
            Bound.due("image " + k + ": window", town.turn(0, 1, 0), 3 + k);
            Bound.due("image " + k + ": window", town.turn(0, 2, 0), 5 + k);
            Bound.due("image " + k + ": coat", town.coat(0, 0), 6 + k);
            Bound.due("image " + k + ": walk", town.where(0, 10), k == 0 ? 2 : -1);
            Bound.due("image " + k + ": walk", town.where(0, 11), 2 + k);
            Bound.due("image " + k + ": law", town.sees(0, 0, 1), 4 + k);
            Bound.due("image " + k + ": month", town.count(12), k + 1);
        }
    }

    /** All STREETS, all colours told to COUNT AS ONE in one IMAGE, every other of them in the other one. */
    private static void pairs() {
        ThreeColours town = new ThreeColours();
        for (int step = 1; step <= 2; step++) {
            for (int one = 0; one < 10; one++) {
                for (int other = one + 1; other < 10; other++) {
                    int is = step == 1 || (one + other) % 2 == 0 ? 1 : 0;
                    town.street(one, other, is);
                    if (other < 8) {
                        town.same(one, other, is);
                    }
                }
            }
            town.image(2 - step);
        }
        for (int k = 1; k >= 0; k--) {
            town.back(k);
            for (int colour = 0; colour < 8; colour++) {
                Bound.due("image " + k + ": counts(" + colour + ")", town.counts(colour), k == 1 ? 0 : colour % 2);
            }
            for (int one = 0; one < 10; one++) {
                for (int other = one + 1; other < 10; other++) {
                    int due = k == 1 || (one + other) % 2 == 0 ? 1 : 0;
                    Bound.due("image " + k + ": street " + one + ", " + other, town.street(one, other, 0), due);
                    if (other < 8) {
                        Bound.due("image " + k + ": same " + other + ", " + one, town.same(other, one, 0), due);
                    }
                }
            }
        }
    }

    private static ThreeColours fill(ThreeColours town) {
        for (int i = 0; i < 10; i++) {
            town.thing(0, 0, 0, 0, 99);
        }
        for (int i = 0; i < 8; i++) {
            town.window(0, 0, 99);
        }
        for (int i = 0; i < 5; i++) {
            town.person(7);
        }
        Towns.walks(town, 59);
        town.walk(4, 119, 9);
        for (int i = 0; i < 6; i++) {
            Due.law(town, "limit " + i);
        }
        return town;
    }

    private static void image() {
        Bound.by(41, "IMAGE k is kept: 0; -1.");
        Bound.ends("image", Towns::busy, new int[] {0}, new int[][] {{0, 1}}, (it, n) -> it.image(n[0]));
        Bound.ends("image", Towns::empty, new int[] {0}, new int[][] {{0, 1}}, (it, n) -> it.image(n[0]));
        ThreeColours town = new ThreeColours();
        for (int k = 0; k < 2; k++) {
            Bound.due("image " + k, town.image(k), 0);
            Bound.due("status()", town.status(), 0);
            town.month(k + 5);
            Bound.due("kept anew " + k, town.image(k), 0);
        }
        town.month(1);
        town.back(0);
        Bound.due("image 0 as it was kept last", town.count(12), 5);
        town.back(1);
        Bound.due("image 1 as it was kept last", town.count(12), 6);
        town.image(2);
        town.back(0);
        Bound.due("an image that can't be changes none", town.count(12), 5);

        Bound.by(42, "BACK to IMAGE k: 0.");
        Bound.due("image 0", town.back(0), 0);
        Bound.due("image 1", town.back(1), 0);
        Bound.due("again", town.back(1), 0);
    }

    private static void back() {
        Bound.by(42, "-1; -2 it was not kept.");
        Bound.ends("back", Towns::full, new int[] {0}, new int[][] {{0, 1}}, (it, n) -> it.back(n[0]));
        Bound.refused("image 0 was not kept", Towns::empty, -2, it -> it.back(0));
        Bound.refused("image 1 was not kept", Towns::empty, -2, it -> it.back(1));
        Bound.refused("image 1 was not kept, image 0 was", Towns::busy, -2, it -> it.back(1));
        for (int none : new int[] {-1, 2, Bound.MIN, Bound.MAX}) {
            Bound.refused("image " + none + " can't be", Towns::empty, -1, it -> it.back(none));
        }
        Supplier<ThreeColours> second = () -> {
            ThreeColours it = new ThreeColours();
            it.image(1);
            return it;
        };
        Bound.refused("image 0 was not kept, image 1 was", second, -2, it -> it.back(0));
        Bound.taken("image 1 was", second, it -> it.back(1));
        Supplier<ThreeColours> wrong = () -> {
            ThreeColours it = new ThreeColours();
            it.image(2);
            it.image(-1);
            return it;
        };
        Bound.refused("those that were REFUSED are not kept", wrong, -2, it -> it.back(0));
        Bound.refused("those that were REFUSED are not kept", wrong, -2, it -> it.back(1));
    }

    private static void count() {
        Bound.by(43, "0 THINGS, 1 WINDOWS, 2 PEOPLE, 3 LAWS, 4 WALKS, 5 bytes of the TAPE, 6 .. 10 how many calls were REFUSED by -1, -2, -3, "
                + "-5, -6 (IMAGES do not keep that), 11 the LAW in FORCE, 12 the MONTH.");
        int[] empty = {0, 0, 0, 0, 0, 0, 0, 0, 0, 0, 0, -1, 0};
        int[] full = {10, 8, 5, 6, 60, 400, 0, 0, 0, 0, 0, 5, 0};
        int[] busy = {4, 3, 3, 2, 4, 7, 1, 1, 1, 0, 1, 1, 2};
        for (int what = 0; what < 13; what++) {
            Bound.due("empty, count(" + what + ")", new ThreeColours().count(what), empty[what]);
            Bound.due("full, count(" + what + ")", Towns.full().count(what), full[what]);
            Bound.due("busy, count(" + what + ")", Towns.busy().count(what), busy[what]);
        }
        ThreeColours town = new ThreeColours();
        town.image(0);
        int[] due = new int[5];
        for (int round = 1; round <= 3; round++) {
            town.month(12);
            town.back(1);
            town.street(1, 1, 1);
            town.law();
            due[0]++;
            due[1]++;
            due[2]++;
            due[4]++;
            town.back(0);
            for (int i = 0; i < 5; i++) {
                Bound.due("round " + round + ", images do not keep that: count(" + (6 + i) + ")", town.count(6 + i), due[i]);
            }
        }
        for (int i = 0; i < 12; i++) {
            town.person(0);
        }
        Bound.due("seven without room", town.count(9), 7);
        town.back(0);
        Bound.due("still seven", town.count(9), 7);
        town.month(11);
        Bound.due("the highest month", town.count(12), 11);

        Bound.by(43, "NONE for others.");
        for (int what : new int[] {-1, 13, -2, 14, Bound.MIN, Bound.MAX}) {
            Bound.leaves("count(" + what + ")", Towns::busy, -1, it -> it.count(what));
        }
    }

    /** Every call that can be REFUSED, once by each reason it may have; and once taken. */
    private static void refusals() {
        Bound.by(44, "What the latest call of thing, put, bloom, window, turn, street, person, coat, same, month, walk, row, law, force, take, "
                + "day, image, back was REFUSED by;");
        Supplier<ThreeColours> busy = Towns::busy;
        Supplier<ThreeColours> full = Towns::full;
        Bound.refused("thing", busy, -1, it -> it.thing(4, 0, 0, 0, 0));
        Bound.refused("thing", full, -5, it -> it.thing(0, 0, 0, 0, 0));
        Bound.refused("put", busy, -1, it -> it.put(0, 6, 0));
        Bound.refused("put", busy, -2, it -> it.put(4, 0, 0));
        Bound.refused("bloom", busy, -1, it -> it.bloom(0, 4096, 0));
        Bound.refused("bloom", busy, -2, it -> it.bloom(4, 0, 0));
        Bound.refused("window", busy, -1, it -> it.window(1024, 0, 0));
        Bound.refused("window", full, -5, it -> it.window(0, 0, 0));
        Bound.refused("turn", busy, -1, it -> it.turn(0, 3, 0));
        Bound.refused("turn", busy, -2, it -> it.turn(3, 0, 0));
        Bound.refused("street", busy, -1, it -> it.street(0, 10, 0));
        Bound.refused("street", busy, -3, it -> it.street(0, 0, 0));
        Bound.refused("person", busy, -1, it -> it.person(8));
        Bound.refused("person", full, -5, it -> it.person(0));
        Bound.refused("coat", busy, -1, it -> it.coat(0, 8));
        Bound.refused("coat", busy, -2, it -> it.coat(3, 0));
        Bound.refused("same", busy, -1, it -> it.same(0, 8, 0));
        Bound.refused("same", busy, -3, it -> it.same(0, 0, 0));
        Bound.refused("month", busy, -1, it -> it.month(12));
        Bound.refused("walk", busy, -1, it -> it.walk(0, 120, 0));
        Bound.refused("walk", busy, -2, it -> it.walk(3, 0, 0));
        Bound.refused("walk", full, -5, it -> it.walk(0, 0, 0));
        Bound.refused("row", Towns::empty, -6, ThreeColours::row);
        Bound.refused("force", busy, -2, it -> it.force(2));
        Bound.refused("take", busy, -1, it -> it.take(0));
        Bound.refused("take", TownBounds::hopeless, -3, it -> it.take(1));
        Bound.refused("day", busy, -1, it -> it.day(-1));
        Bound.refused("image", busy, -1, it -> it.image(2));
        Bound.refused("back", busy, -1, it -> it.back(2));
        Bound.refused("back", busy, -2, it -> it.back(1));
        ThreeColours town = new ThreeColours();
        Bound.due("law", Due.law(town, "x"), -6);
        Bound.due("status()", town.status(), -6);
        town = Towns.full();
        Bound.due("law", town.law(), -5);
        Bound.due("status()", town.status(), -5);
        town.month(12);
        Bound.due("the latest counts", town.status(), -1);
        town.coat(5, 0);
        Bound.due("the latest counts", town.status(), -2);
    }

    /** Each call that status() looks at, taken; back() is the last, as an IMAGE must be there. */
    private static Map<String, Bound.Call> takenCalls() {
        Map<String, Bound.Call> calls = new LinkedHashMap<>();
        calls.put("thing", it -> it.thing(0, 0, 0, 0, 0));
        calls.put("put", it -> it.put(0, 0, 0));
        calls.put("bloom", it -> it.bloom(0, 0, 0));
        calls.put("window", it -> it.window(0, 0, 0));
        calls.put("turn", it -> it.turn(0, 0, 0));
        calls.put("street", it -> it.street(0, 1, 0));
        calls.put("person", it -> it.person(0));
        calls.put("coat", it -> it.coat(0, 0));
        calls.put("same", it -> it.same(0, 1, 0));
        calls.put("month", it -> it.month(0));
        calls.put("walk", it -> it.walk(0, 0, 0));
        calls.put("row", ThreeColours::row);
        calls.put("law", it -> {
            it.end(0);
            return Due.law(it, "free");
        });
        calls.put("force", it -> it.force(-1));
        calls.put("take", it -> it.take(1));
        calls.put("day", it -> it.day(0));
        calls.put("image", it -> it.image(1));
        calls.put("back", it -> it.back(0));
        return calls;
    }

    /** Each of the other calls, with an answer and without. */
    private static Map<String, Bound.Call> otherCalls() {
        Map<String, Bound.Call> calls = new LinkedHashMap<>();
        for (int i = 0; i < 2; i++) {
            int n = i == 0 ? 0 : 9999;
            int months = i == 0 ? 1 : 0;
            calls.put("of " + n, it -> it.of(n, n));
            calls.put("counts " + n, it -> it.counts(n));
            calls.put("where " + n, it -> it.where(n, n));
            calls.put("end " + n, it -> it.end(n == 0 ? 7 : n));
            calls.put("spoilt " + n, ThreeColours::spoilt);
            calls.put("fault " + n, ThreeColours::fault);
            calls.put("costs " + n, it -> it.costs(n, n));
            calls.put("sees " + n, it -> it.sees(n, n, n));
            calls.put("judge " + n, it -> it.judge(n));
            calls.put("bad " + n, it -> it.bad(n));
            calls.put("best " + n, it -> it.best(months, n));
            calls.put("paint " + n, it -> it.paint(months, n));
            calls.put("fewest " + n, it -> it.fewest(months, n));
            calls.put("mend " + n, it -> it.mend(months, n));
            calls.put("shut " + n, it -> it.shut(months));
            calls.put("bars " + n, it -> it.bars(months));
            calls.put("third " + n, it -> it.third(months, n));
            calls.put("near " + n, it -> it.near(n));
            calls.put("soon " + n, it -> it.soon(n, n, n, n));
            calls.put("way " + n, it -> it.way(n, n, n, n, n));
            calls.put("file " + n, it -> it.file(months, months, n));
            calls.put("drawn " + n, it -> it.drawn(n, n));
            calls.put("count " + n, it -> it.count(n));
            calls.put("status " + n, ThreeColours::status);
        }
        calls.put("feed with room", it -> it.feed(0, 0, 0, 0, 0));
        calls.put("feed without room", it -> {
            for (int i = 0; i < 25; i++) {
                it.feed(0, 0, 0, 0, 0);
            }
            return 0;
        });
        return calls;
    }

    private static void status() {
        Bound.by(44, "0 if it was not, or ahead of any.");
        Bound.due("ahead of any", new ThreeColours().status(), 0);
        ThreeColours town = new ThreeColours();
        town.of(9, 9);
        town.end(1);
        town.best(0, 0);
        Bound.due("still ahead of any", town.status(), 0);
        for (Map.Entry<String, Bound.Call> call : takenCalls().entrySet()) {
            town = Towns.busy();
            town.month(12);
            Bound.due("refused", town.status(), -1);
            call.getValue().on(town);
            Bound.due(call.getKey() + " was not", town.status(), 0);
            Bound.due("status() leaves it", town.status(), 0);
        }
        int[] reasons = {-1, -2, -3, -5, -6, 0};
        for (Map.Entry<String, Bound.Call> call : otherCalls().entrySet()) {
            for (int reason : reasons) {
                town = Towns.busy();
                refuse(town, reason);
                int[] before = new int[5];
                for (int i = 0; i < 5; i++) {
                    before[i] = town.count(6 + i);
                }
                call.getValue().on(town);
                Bound.due(call.getKey() + " leaves it", town.status(), reason);
                for (int i = 0; i < 5; i++) {
                    Bound.due(call.getKey() + " leaves count(" + (6 + i) + ")", town.count(6 + i), before[i]);
                }
            }
        }
    }

    /** The latest call is REFUSED by that. */
    private static void refuse(ThreeColours town, int reason) {
        switch (reason) {
            case -1: town.month(12); break;
            case -2: town.back(1); break;
            case -3: town.street(3, 3, 1); break;
            case -5:
                for (int i = 0; i < 3; i++) {
                    town.person(0);
                }
                break;
            case -6:
                town.end(0);
                town.row();
                Due.tape(town, "\u0000\u0064\u0003\u0001\u0065\u0004\u0000");
                break;
            default: town.month(2); break;
        }
        Bound.due("refused by " + reason, town.status(), reason);
    }
}
