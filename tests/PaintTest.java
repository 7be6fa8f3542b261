/** Promises 27 to 34: PAINTINGS. */
public final class PaintTest {
    private static final int ALL = 4095;

    public static void main(String[] args) {
        empty();
        choices();
        values();
        firstOfBest();
        months();
        minuteNoughtAndNobodyOut();
        fewest();
        taking();
        mending();
        barring();
        thirds();
        many();
        wrongNumbers();
        Due.finish();
    }

    private static void empty() {
        ThreeColours town = new ThreeColours();
        Due.due("27: one painting of nothing", town.best(ALL, 0), 1);
        Due.due("27: its value", town.best(ALL, 1), 0);
        Due.due("27: good", town.best(ALL, 2), 1);
        for (int what = 0; what < 3; what++) {
            Due.due("29: nothing", town.fewest(1, what), 0);
        }
        Due.due("30: nothing", town.take(1), 0);
        Due.due("31: nothing", town.mend(1, -1), 0);
        Due.due("32: nothing", town.shut(1), 0);
        Due.due("33: nothing", town.bars(1), 0);
        town = Due.under("limit 0");
        town.window(1023, 1023, 5);
        Due.due("27: a window of nothing holds", town.best(ALL, 2), 1);
        Due.due("34: nothing more", town.third(1, 0), 0);
    }

    /** How many choices one THING has. */
    private static int choices(int colour, int wished, int must) {
        ThreeColours town = new ThreeColours();
        town.thing(0, colour, wished, 1, 1);
        town.put(0, 5, must);
        return town.best(1, 2);
    }

    private static void choices() {
        Due.due("III: as it is, wished, grey", choices(1, 2, 0), 3);
        Due.due("III: as it is, grey", choices(2, 2, 0), 2);
        Due.due("III: grey as it is, wished", choices(0, 2, 0), 2);
        Due.due("III: as it is, grey wished", choices(2, 0, 0), 2);
        Due.due("III: grey and wished grey", choices(0, 0, 0), 1);
        Due.due("III: must, painted", choices(1, 2, 1), 1);
        Due.due("III: must, as it is", choices(2, 2, 1), 1);
        Due.due("III: must, grey", choices(2, 0, 1), 1);
        Due.due("III: must, grey already", choices(0, 0, 1), 1);
        ThreeColours town = new ThreeColours();
        town.thing(0, 1, 2, 9, 0);
        town.put(0, 5, 1);
        Due.due("28: one that must has its wish", town.paint(1, 0), 2);
        Due.due("27: at its cost", town.best(1, 1), -9);
        Due.due("29: painted", town.fewest(1, 1), 1);
        Due.due("31: must as told", town.mend(1, -1), 9);
        Due.due("31: in its colour", town.mend(1, 0), 2);
    }

    private static void values() {
        ThreeColours town = new ThreeColours();
        town.thing(0, 1, 2, 4, 10);
        Due.due("27: worth less cost", town.best(1, 1), 6);
        Due.due("28: painted", town.paint(1, 0), 2);
        town.put(0, 3, 11);
        Due.due("27: not worth it", town.best(1, 1), 0);
        Due.due("28: as it is", town.paint(1, 0), 1);
        town.put(0, 3, 10);
        Due.due("27: two ways are best", town.best(1, 0), 2);
        Due.due("28: lower choices ahead", town.paint(1, 0), 1);
        town.thing(0, 3, 3, 50, 20);
        Due.due("27: worth as it is", town.best(1, 1), 20);
        Due.due("27: good", town.best(1, 2), 6);
        Due.law(town, "cost 3 if thing=0 and colour=2;cost 0 if thing=0 and colour=0");
        town.force(0);
        Due.due("27: by the law's cost", town.best(1, 1), 27);
        Due.due("27: one way", town.best(1, 0), 1);
        town.put(0, 4, 3);
        Due.due("27: as it is, wished, grey", town.best(1, 0), 3);
        Due.due("27: all the same", town.best(1, 1), 20);
        town.put(0, 1, 5);
        town.put(0, 2, 0);
        Due.due("27: grey wished is worth something", town.best(1, 1), 23);
        // The same VALUE by another PAINTING.
        town = new ThreeColours();
        town.thing(0, 1, 2, 1, 5);
        Due.due("27: painted", town.best(1, 1), 4);
        Due.due("28: painted", town.paint(1, 0), 2);
        town.put(0, 3, 9);
        town.thing(0, 3, 3, 0, 4);
        Due.due("27: the same value", town.best(1, 1), 4);
        Due.due("28: by another one", town.paint(1, 0), 1);
    }

    private static void firstOfBest() {
        ThreeColours town = Due.under("limit 1");
        town.thing(0, 1, 2, 5, 9);
        town.thing(0, 2, 1, 5, 9);
        town.window(3, 0, 0);
        Due.due("27: both two, or both one", town.best(1, 0), 2);
        Due.due("27: one wished, one as it is", town.best(1, 1), 4);
        Due.due("27: the greys, too", town.best(1, 2), 3);
        Due.due("28: the first leaves thing 0", town.paint(1, 0), 1);
        Due.due("28: and paints thing 1", town.paint(1, 1), 1);
        town.put(0, 4, 10);
        Due.due("28: worth more now", town.paint(1, 0), 2);
        Due.due("28: and thing 1 stays", town.paint(1, 1), 2);
        Due.due("27: one best", town.best(1, 0), 1);
        town.same(1, 2, 1);
        Due.due("27: as one all goes", town.best(1, 1), 9);
        Due.due("27: both as they are, painted, or grey", town.best(1, 2), 5);
        Due.due("28: thing 0", town.paint(1, 0), 2);
        Due.due("28: thing 1", town.paint(1, 1), 1);
    }

    private static void months() {
        ThreeColours town = Due.under("limit 1 if month=3;limit 0 if month=5 and window=1");
        town.thing(0, 1, 1, 1, 5);
        town.thing(0, 2, 2, 1, 5);
        town.window(3, 0, 0);
        Due.due("27: in month 0 all goes", town.best(1, 2), 4);
        Due.due("27: in month 3 both grey", town.best(8, 2), 1);
        Due.due("27: in both", town.best(9, 2), 1);
        Due.due("27: the value", town.best(9, 1), -2);
        town.bloom(0, 8, 2);
        Due.due("27: thing 0 shows two in month 3", town.best(8, 2), 2);
        Due.due("28: thing 0 is painted all the same", town.paint(8, 0), 1);
        Due.due("28: thing 1 as it is", town.paint(8, 1), 2);
        Due.due("27: the value in bloom", town.best(8, 1), 10);
        town.window(1, 0, 0);
        Due.due("27: none in month 5", town.best(32, 2), 0);
        Due.due("27: none best in month 5", town.best(32, 0), 0);
        Due.due("27: nothing in month 5", town.best(32, 1), -10000);
        Due.due("28: none in month 5", town.paint(32, 0), -1);
        Due.due("27: none in all months", town.best(ALL, 2), 0);
        Due.due("27: but in all the others", town.best(ALL - 32, 2), 2);
        town.month(5);
        Due.due("27: the month does not matter", town.best(1, 2), 4);
        // Months that have the same colours in all, but by different things.
        town = Due.under("limit 1;hidden if thing=month");
        town.thing(0, 1, 2, 1, 1);
        town.thing(0, 1, 2, 1, 1);
        town.thing(0, 1, 1, 1, 1);
        town.put(2, 5, 1);
        town.window(7, 0, 0);
        Due.due("27: thing 1 is one", town.best(1, 2), 3);
        Due.due("27: thing 0 is one", town.best(2, 2), 3);
        Due.due("27: both are", town.best(3, 2), 1);
        Due.due("27: without either hidden", town.best(8, 2), 1);
    }

    private static void minuteNoughtAndNobodyOut() {
        ThreeColours town = Due.under("limit 1 if minute=0;hidden if minute>0");
        town.thing(0, 1, 2, 1, 5);
        town.window(1, 1023, 0);
        town.person(3);
        town.walk(0, 0, 0);
        Due.due("24: the coat is seen", town.sees(0, 0, 2), 0);
        Due.due("27: nobody is out", town.best(1, 2), 3);
        Due.due("33: nothing bars", town.bars(1), 0);
        Due.due("32: nothing is walled up", town.shut(1), 0);
        town.thing(0, 4, 4, 1, 1);
        town.turn(0, 0, 3);
        Due.due("27: minute 0 counts", town.best(1, 2), 1);
    }

    private static void fewest() {
        ThreeColours town = Due.under("limit 1");
        town.thing(0, 1, 2, 0, 0);
        town.thing(0, 3, 3, 0, 0);
        town.thing(0, 0, 3, 0, 0);
        town.thing(0, 4, 4, 0, 0);
        town.window(3, 0, 0);
        Due.due("29: the first two are grey", town.fewest(1, 0), 2);
        Due.due("29: they are painted", town.fewest(1, 1), 2);
        Due.due("29: they are off", town.fewest(1, 2), 2);
        town.turn(0, 0, 5);
        Due.due("29: grey beside grey", town.fewest(1, 0), 2);
        Due.due("29: one is painted", town.fewest(1, 1), 1);
        Due.due("29: one is off, and the other one", town.fewest(1, 2), 2);
        town.put(2, 2, 1);
        Due.due("29: both one", town.fewest(1, 0), 0);
        Due.due("29: thing 2 is painted", town.fewest(1, 1), 1);
        Due.due("29: thing 0 is off", town.fewest(1, 2), 1);
        town.turn(0, 0, 0);
        Due.due("29: none painted", town.fewest(1, 1), 0);
        Due.due("29: none off", town.fewest(1, 2), 0);
        Due.due("29: each of its own painting", town.fewest(1, 0), 0);
        town.put(3, 1, 0);
        town.put(3, 2, 0);
        Due.due("29: grey as it is", town.fewest(1, 0), 1);
        town.put(0, 5, 1);
        Due.due("29: what must be is painted", town.fewest(1, 1), 1);
        town.put(1, 5, 1);
        town.turn(0, 0, 3);
        for (int what = 0; what < 3; what++) {
            Due.due("29: none good", town.fewest(1, what), -1);
        }
    }

    private static void taking() {
        ThreeColours town = Due.under("limit 1");
        town.thing(0, 1, 2, 5, 9);
        town.thing(0, 2, 1, 5, 8);
        town.thing(0, 7, 6, 1, 2);
        town.window(3, 0, 0);
        Due.due("30: two are painted", town.take(1), 2);
        Due.due("30: status", town.status(), 0);
        Due.due("30: thing 0", town.of(0, 1), 2);
        Due.due("30: thing 1", town.of(1, 1), 2);
        Due.due("30: thing 2", town.of(2, 1), 6);
        Due.due("30: wishes stay", town.of(1, 2), 1);
        Due.due("30: it holds now", town.sees(0, 0, 0), 4);
        Due.due("30: again none", town.take(1), 0);
        Due.due("27: painted now, it costs no more", town.best(1, 1), 11);
        Due.due("30: months 0", town.take(0), -1);
        Due.due("30: months 4096", town.take(4096), -1);
        Due.due("30: months -1", town.take(-1), -1);
        town.put(0, 5, 1);
        town.put(1, 5, 1);
        Due.due("30: none is good", town.take(1), -3);
        Due.due("30: status", town.status(), -3);
        Due.due("30: nothing was painted", town.of(1, 1), 2);
        Due.due("30: -1 ahead of -3", town.take(0), -1);
        town.thing(0, 5, 5, 0, 0);
        town.bloom(3, 1, 4);
        town.put(1, 5, 0);
        town.put(3, 2, 3);
        town.put(3, 4, 9);
        Due.due("30: what blooms is painted beneath", town.take(1), 1);
        Due.due("30: beneath", town.of(3, 1), 3);
        Due.due("30: shown", town.of(3, 8), 4);
    }

    private static void mending() {
        ThreeColours town = Due.under("limit 1");
        town.thing(0, 1, 2, 5, 99);
        town.thing(0, 3, 4, 6, 99);
        town.window(3, 0, 20);
        Due.due("31: both grey", town.mend(1, -1), 11);
        Due.due("31: thing 0", town.mend(1, 0), 0);
        Due.due("31: thing 1", town.mend(1, 1), 0);
        Due.due("32: none walled up", town.shut(1), 0);
        town.turn(0, 2, 11);
        Due.due("31: as dear", town.mend(1, -1), 11);
        Due.due("31: the first leaves all", town.mend(1, 0), 1);
        Due.due("32: walled up", town.shut(1), 1);
        town.turn(0, 2, 3);
        town.window(1, 0, 9);
        town.window(3, 0, 4);
        Due.due("31: two windows", town.mend(1, -1), 7);
        Due.due("32: two windows", town.shut(1), 0b101);
        town.turn(2, 2, 9);
        Due.due("31: painting is cheaper", town.mend(1, -1), 11);
        Due.due("32: none", town.shut(1), 0);
        town.put(1, 5, 1);
        Due.due("31: thing 1 must", town.mend(1, -1), 6 + 12);
        Due.due("31: thing 1 in its wish", town.mend(1, 1), 4);
        Due.due("31: thing 0 as it is", town.mend(1, 0), 1);
        Due.due("32: walled up", town.shut(1), 0b101);
        town.put(0, 2, 4);
        Due.due("31: both four", town.mend(1, -1), 11);
        Due.due("31: thing 0 in four", town.mend(1, 0), 4);
        Due.due("31: no such thing", town.mend(1, 2), -1);
        Due.due("31: thing -2", town.mend(1, -2), -1);
        Due.due("31: months 0", town.mend(0, -1), -1);
        Due.due("31: months 4096", town.mend(4096, 0), -1);
        Due.due("32: months 0", town.shut(0), -1);
        Due.due("32: months 4096", town.shut(4096), -1);
        Due.due("31: nothing is painted", town.of(1, 1), 3);
        // Walling one up for 11, or painting for 5 and walling the other up for 6.
        town = Due.under("limit 1");
        town.thing(0, 1, 2, 5, 0);
        town.thing(0, 2, 2, 50, 0);
        town.thing(0, 1, 1, 50, 0);
        town.window(3, 0, 11);
        town.window(5, 0, 6);
        Due.due("31: either way", town.mend(1, -1), 11);
        Due.due("31: the first leaves thing 0", town.mend(1, 0), 1);
        Due.due("32: and walls up window 0", town.shut(1), 1);
        town.turn(0, 2, 12);
        Due.due("31: painting and walling up", town.mend(1, -1), 11);
        Due.due("31: thing 0 is painted", town.mend(1, 0), 2);
        Due.due("32: and window 1 walled up", town.shut(1), 2);
        town.thing(0, 4, 5, 0, 9);
        Due.due("31: lower choices ahead where all cost nothing", town.mend(1, 3), 4);
        // A WINDOW that does not HOLD in one of the MONTHS is walled up once.
        town = Due.under("limit 0");
        town.thing(0, 1, 1, 0, 0);
        town.window(1, 0, 7);
        town.window(0, 0, 9);
        Due.due("31: once for all months", town.mend(ALL, -1), 7);
        Due.due("32: the one that sees", town.shut(ALL), 1);
        town.turn(0, 2, 0);
        Due.due("31: walled up for nothing", town.mend(ALL, -1), 0);
        Due.due("32: it does not hold", town.shut(ALL), 1);
        // Months in which different things are seen: one window each, walled up if that is cheaper than painting.
        town = Due.under("limit 1;hidden if month=window");
        town.thing(0, 1, 1, 4, 0);
        town.thing(0, 2, 2, 4, 0);
        town.thing(0, 3, 3, 4, 0);
        town.window(3, 0, 9);
        town.window(6, 0, 9);
        town.bloom(0, 2, 7);
        town.bloom(2, 1, 7);
        Due.due("31: in month 0 things 1 and 2 are seen", town.mend(1, -1), 9);
        Due.due("32: window 1", town.shut(1), 2);
        Due.due("31: in month 1 things 0 and 1 are seen", town.mend(2, -1), 9);
        Due.due("32: window 0", town.shut(2), 1);
        Due.due("31: in both", town.mend(3, -1), 18);
        Due.due("32: both", town.shut(3), 3);
        Due.due("31: in another month all grey", town.mend(4, -1), 12);
        Due.due("32: none", town.shut(4), 0);
        Due.due("32: in all", town.shut(7), 3);
        town.bloom(0, 0, 0);
        Due.due("31: without bloom, in months 1 and 2", town.mend(6, -1), 12);
        Due.due("31: in months 0 and 1", town.mend(3, -1), 8 + 9);
        Due.due("32: window 1", town.shut(3), 2);
        town = Due.under("limit 1 if month=2");
        town.thing(0, 1, 1, 9, 0);
        town.thing(0, 2, 2, 9, 0);
        town.window(3, 0, 5);
        Due.due("31: in month 0 nothing", town.mend(1, -1), 0);
        Due.due("31: in month 2 a wall", town.mend(4, -1), 5);
        Due.due("32: in both", town.shut(5), 1);
        town.bloom(0, 4, 2);
        Due.due("31: in bloom nothing", town.mend(4, -1), 0);
        town.bloom(0, 0, 2);
        Due.law(town, "limit 1;cost 1");
        town.force(1);
        Due.due("31: by the law's cost", town.mend(1, -1), 2);
    }

    private static void barring() {
        ThreeColours town = Due.under("limit 1");
        for (int colour = 1; colour <= 4; colour++) {
            town.thing(0, colour, colour, 1, 1);
        }
        town.put(1, 1, 1);
        town.put(1, 2, 3);
        town.window(0b1000, 0, 0);
        town.window(0b0011, 0, 0);
        town.window(0b0110, 0, 0);
        town.window(0b0101, 0, 0);
        Due.due("33: all grey is good", town.bars(1), 0);
        town.put(0, 5, 1);
        town.put(2, 5, 1);
        Due.due("33: window 3 by itself", town.bars(1), 0b1000);
        town.turn(3, 0, 0);
        Due.due("33: things 0 and 1, 1 and 2 together", town.bars(1), 0b0110);
        town.window(0b0101, 0, 0);
        Due.due("33: from the first on each is left out", town.bars(1), 0b10000);
        town.turn(4, 0, 0b0011);
        Due.due("33: of two alike the first is left out", town.bars(1), 0b10100);
        town.put(0, 5, 0);
        Due.due("33: thing 0 can't be three", town.bars(1), 0b10100);
        town.put(2, 5, 0);
        Due.due("33: there is a good one", town.bars(1), 0);
        town.put(0, 5, 1);
        town.put(2, 5, 1);
        town.bloom(1, 1, 4);
        Due.due("33: in bloom each end bars", town.bars(1), 0b10000);
        Due.due("33: not in bloom", town.bars(2), 0b10100);
        Due.due("33: months 0", town.bars(0), -1);
        Due.due("33: months 4096", town.bars(4096), -1);
        Due.due("33: months -1", town.bars(-1), -1);
        // Windows may bar in different months.
        town = Due.under("limit 1 if month=window;limit 8 if not month=window");
        town.window(0b011, 0, 0);
        town.window(0b110, 0, 0);
        town.thing(0, 1, 1, 1, 1);
        town.thing(0, 2, 3, 1, 1);
        town.thing(0, 3, 3, 1, 1);
        town.put(0, 5, 1);
        town.put(2, 5, 1);
        Due.due("33: window 0 in month 0: thing 1 can't be one", town.bars(1), 1);
        town.put(1, 2, 1);
        Due.due("33: in month 0 thing 1 is as thing 0", town.bars(1), 0);
        Due.due("33: window 1 in month 1", town.bars(2), 2);
        town.put(1, 1, 3);
        Due.due("33: in month 1 thing 1 is as thing 2", town.bars(2), 0);
        Due.due("33: in both", town.bars(3), 3);
    }

    private static void thirds() {
        ThreeColours town = Due.under("limit 1");
        town.thing(0, 1, 1, 2, 7);
        town.thing(0, 2, 2, 2, 9);
        town.window(3, 0, 0);
        town.window(1, 0, 0);
        Due.due("27: both grey", town.best(1, 1), -4);
        Due.due("34: both as they are", town.third(1, 0), 20);
        Due.due("34: another window", town.third(1, 1), 0);
        town.window(3, 0, 0);
        Due.due("34: one of two alike", town.third(1, 0), 0);
        town.turn(2, 0, 0);
        town.thing(0, 3, 3, 2, 30);
        town.turn(0, 0, 7);
        Due.due("27: all grey", town.best(1, 1), -6);
        Due.due("34: the third as it is", town.third(1, 0), 32);
        town.put(0, 5, 1);
        town.put(1, 5, 1);
        Due.due("34: none good as it is", town.third(1, 0), -1);
        Due.due("34: window 3", town.third(1, 3), -1);
        Due.due("34: window -1", town.third(1, -1), -1);
        town.put(1, 5, 0);
        town.put(0, 1, 2);
        town.put(0, 2, 2);
        Due.due("34: months 0", town.third(0, 0), -1);
        Due.due("34: months 4096", town.third(4096, 0), -1);
        town = Due.under("limit 8");
        for (int i = 0; i < 8; i++) {
            town.thing(0, i, i, 1, 1);
        }
        town.window(255, 0, 0);
        Due.due("34: nothing above eight", town.third(ALL, 0), 0);
        town = Due.under("limit 9;limit 0-5 if month=1");
        town.thing(0, 1, 1, 1, 1);
        town.window(1, 0, 0);
        Due.due("34: a limit of nought and none good", town.third(2, 0), -1);
        town = Due.under("limit 1;limit 2 if month=1");
        town.thing(0, 1, 1, 2, 5);
        town.thing(0, 2, 2, 2, 5);
        town.thing(0, 3, 3, 2, 6);
        town.window(7, 0, 0);
        Due.due("34: one more in each month", town.third(2, 0), 16 - (6 - 4));
        Due.due("27: in month 1", town.best(2, 1), 2);
        Due.due("34: in both months", town.third(3, 0), (6 - 4) - (0 - 6));
    }

    /** The greatest town: ten THINGS with three choices each. */
    private static void many() {
        ThreeColours town = new ThreeColours();
        for (int i = 0; i < 10; i++) {
            town.thing(0, 1 + i % 7, 1 + (i + 1) % 7, 99, 0);
        }
        Due.due("27: three to the tenth", town.best(ALL, 2), 59049);
        Due.due("27: one best", town.best(ALL, 0), 1);
        for (int i = 0; i < 10; i++) {
            town.put(i, 3, 0);
        }
        Due.due("27: all are best", town.best(ALL, 0), 59049);
        Due.due("27: at nothing", town.best(ALL, 1), 0);
        for (int i = 0; i < 10; i++) {
            town.put(i, 5, 1);
            town.put(i, 3, 99);
        }
        Due.due("27: the least value", town.best(ALL, 1), -990);
        Due.due("31: the dearest", town.mend(ALL, -1), 990);
        for (int i = 0; i < 8; i++) {
            town.window(1023, 0, 99);
        }
        Due.due("27: none", town.best(ALL, 2), 0);
        Due.due("31: the dearest of all", town.mend(ALL, -1), 990 + 792);
        Due.due("32: all", town.shut(ALL), 255);
        Due.due("33: the last by itself", town.bars(ALL), 128);
        for (int i = 0; i < 10; i++) {
            town.put(i, 5, 0);
            town.put(i, 4, 99);
            town.put(i, 3, 0);
        }
        // Seven wished colours, 1 to 7; things 0, 7 wish 2, things 1, 8 wish 3, things 2, 9 wish 4.
        Due.due("27: grey and two of those that are wished twice", town.best(ALL, 1), 396);
        // With 2 and 3 things 2, 9 stay or are grey; with 3 and 4 thing 3; with 2 and 4 things 1, 8 and 3.
        Due.due("27: in how many ways", town.best(ALL, 0), 4 + 2 + 8);
        Due.due("34: eight windows see the same", town.third(ALL, 4), 0);
        // The last of ten THINGS settles it.
        town = Due.under("limit 1");
        for (int i = 0; i < 10; i++) {
            town.thing(0, i == 9 ? 2 : 1, i == 9 ? 1 : 2, i == 9 ? 5 : 1, 1);
        }
        town.window(1023, 0, 7);
        Due.due("31: the last is painted", town.mend(ALL, -1), 5);
        Due.due("31: as all the others are", town.mend(ALL, 9), 1);
        Due.due("31: which stay", town.mend(ALL, 0), 1);
        Due.due("32: none walled up", town.shut(ALL), 0);
        Due.due("27: all one, all two or all grey", town.best(ALL, 2), 3);
        Due.due("27: all two, the last as it is", town.best(ALL, 1), 0);
        Due.due("28: the last", town.paint(ALL, 9), 2);
        town.put(9, 5, 1);
        town.put(8, 5, 1);
        Due.due("33: the last and the last but one", town.bars(ALL), 1);
        Due.due("32: walled up", town.shut(ALL), 1);
        Due.due("31: what must be is painted all the same", town.mend(ALL, -1), 5 + 1 + 7);
    }

    private static void wrongNumbers() {
        ThreeColours town = new ThreeColours();
        town.thing(0, 1, 2, 3, 4);
        for (int months : new int[] {0, -1, 4096, Integer.MAX_VALUE, Integer.MIN_VALUE}) {
            Due.due("27: months " + months, town.best(months, 0), -10000);
            Due.due("27: months " + months, town.best(months, 1), -10000);
            Due.due("27: months " + months, town.best(months, 2), -10000);
            Due.due("28: months " + months, town.paint(months, 0), -1);
            Due.due("29: months " + months, town.fewest(months, 0), -1);
        }
        Due.due("27: what 3", town.best(1, 3), -10000);
        Due.due("27: what -1", town.best(1, -1), -10000);
        Due.due("28: thing 1", town.paint(1, 1), -1);
        Due.due("28: thing -1", town.paint(1, -1), -1);
        Due.due("29: what 3", town.fewest(1, 3), -1);
        Due.due("29: what -1", town.fewest(1, -1), -1);
        Due.due("27: not refused", town.count(6), 0);
    }
}
