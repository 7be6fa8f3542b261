import java.util.LinkedHashMap;
import java.util.Map;

/** All that can be asked of a town, but for status() and how many calls were REFUSED; the town is worn out by it. */
final class View {
    private final Map<String, Integer> answers = new LinkedHashMap<>();
    private final ThreeColours town;

    private View(ThreeColours town) {
        this.town = town;
    }

    /** In some 400 calls, so that a town may have had some 90 before. */
    static Map<String, Integer> of(ThreeColours town) {
        View view = new View(town);
        view.counted();
        view.things();
        view.people();
        view.windows();
        view.paintings();
        view.ways();
        view.wornOut();
        view.tapeAndImages();
        return view.answers;
    }

    private void is(String call, int answer) {
        answers.put(call, answer);
    }

    private void counted() {
        for (int what = 0; what < 13; what++) {
            if (what < 6 || what > 10) {
                is("count(" + what + ")", town.count(what));
            }
        }
        is("fault()", town.fault());
        is("spoilt()", town.spoilt());
        for (int colour = 0; colour < 8; colour++) {
            is("counts(" + colour + ")", town.counts(colour));
        }
    }

    private void things() {
        for (int thing = 0; thing < 10; thing++) {
            for (int what = 0; what < 9; what++) {
                is("of(" + thing + ", " + what + ")", town.of(thing, what));
            }
            is("costs(" + thing + ", 4)", town.costs(thing, 4));
        }
    }

    private void people() {
        for (int person = 0; person < 5; person++) {
            for (int minute : new int[] {0, 7, 119}) {
                is("where(" + person + ", " + minute + ")", town.where(person, minute));
            }
            is("drawn(" + person + ", 0)", town.drawn(person, 0));
            is("drawn(" + person + ", 119)", town.drawn(person, 119));
            is("file(2, 1, " + person + ")", town.file(2, 1, person));
        }
        is("file(2, 1, -1)", town.file(2, 1, -1));
    }

    private void windows() {
        for (int window = 0; window < 8; window++) {
            for (int what = 0; what < 3; what++) {
                is("sees(" + window + ", 0, " + what + ")", town.sees(window, 0, what));
            }
            is("sees(" + window + ", 7, 0)", town.sees(window, 7, 0));
            is("bad(" + window + ")", town.bad(window));
            is("third(4095, " + window + ")", town.third(4095, window));
        }
        for (int what = 0; what < 3; what++) {
            is("judge(" + what + ")", town.judge(what));
            is("near(" + what + ")", town.near(what));
        }
    }

    private void paintings() {
        for (int what = 0; what < 3; what++) {
            is("best(1, " + what + ")", town.best(1, what));
            is("best(4095, " + what + ")", town.best(4095, what));
            is("fewest(4095, " + what + ")", town.fewest(4095, what));
        }
        for (int thing = 0; thing < 10; thing++) {
            is("paint(4095, " + thing + ")", town.paint(4095, thing));
            is("mend(4095, " + thing + ")", town.mend(4095, thing));
        }
        is("mend(4095, -1)", town.mend(4095, -1));
        is("shut(4095)", town.shut(4095));
        is("bars(4095)", town.bars(4095));
    }

    private void ways() {
        for (int place = 0; place < 10; place++) {
            is("soon(0, 0, 9, " + place + ")", town.soon(0, 0, 9, place));
            is("way(1, 0, 0, 9, " + place + ")", town.way(1, 0, 0, 9, place));
        }
    }

    /** What is told only by a call that changes it. */
    private void wornOut() {
        for (int window = 0; window < 8; window++) {
            for (int what = 0; what < 3; what++) {
                is("turn(" + window + ", " + what + ", 0)", town.turn(window, what, 0));
            }
        }
        for (int person = 0; person < 5; person++) {
            is("coat(" + person + ", 0)", town.coat(person, 0));
        }
        for (int one = 0; one < 10; one++) {
            for (int other = one + 1; other < 10; other++) {
                is("street(" + one + ", " + other + ", 0)", town.street(one, other, 0));
                if (other < 8) {
                    is("same(" + one + ", " + other + ", 0)", town.same(one, other, 0));
                }
            }
        }
    }

    /** At the end, as a row() empties the TAPE and back() changes all. */
    private void tapeAndImages() {
        is("row()", town.row());
        is("spoilt() of it", town.spoilt());
        is("where(0, 100) by it", town.where(0, 100));
        is("where(1, 101) by it", town.where(1, 101));
        for (int k = 0; k < 2; k++) {
            is("back(" + k + ")", town.back(k));
            for (int what : new int[] {0, 1, 2, 3, 4, 11, 12}) {
                is("count(" + what + ") behind back(" + k + ")", town.count(what));
            }
            is("of(0, 1) behind back(" + k + ")", town.of(0, 1));
            is("sees(0, 0, 0) behind back(" + k + ")", town.sees(0, 0, 0));
            is("where(0, 7) behind back(" + k + ")", town.where(0, 7));
        }
    }
}
