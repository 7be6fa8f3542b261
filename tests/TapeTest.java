/** Promises 16 to 22: the TAPE, ROWS of WALKS, LAWS and their FAULTS. */
public final class TapeTest {
    public static void main(String[] args) {
        feeding();
        ending();
        rows();
        laws();
        goodTexts();
        faults();
        bounds();
        forcing();
        Due.finish();
    }

    private static void feeding() {
        ThreeColours town = new ThreeColours();
        for (int i = 1; i <= 20; i++) {
            Due.due("16: so many bytes", town.feed(0, 0, 0, 0, 0), 20 * i);
        }
        Due.due("16: no more than 400", town.feed(0, 0, 0, 0, 0), -1);
        Due.due("16: none came", town.count(5), 400);
        Due.due("17: cut", town.end(381), 381);
        Due.due("16: 401 are too many", town.feed(0, 0, 0, 0, 0), -1);
        town.end(380);
        Due.due("16: 400 are not", town.feed(0, 0, 0, 0, 0), 400);
        Due.due("16: not refused", town.count(6) + town.count(9), 0);
        // The highest byte of each number comes first, and bytes above 127 stay what they are.
        town = new ThreeColours();
        town.person(0);
        town.feed(0x00010200, 0x0203FF00, 0x0304FF00, 0x00000000, 0);
        town.end(9);
        Due.due("16: three walks", town.row(), 2);
        Due.due("16: the first", town.where(0, 1), 2);
        Due.due("16: the second", town.where(0, 2), 3);
        Due.due("16: the third was one who isn't there", town.spoilt(), 1);
        town.feed(0x0005FF00, 0, 0, 0, 0);
        town.end(3);
        Due.due("16: home", town.row(), 1);
        Due.due("16: 255 is home", town.where(0, 5), -1);
    }

    private static void ending() {
        ThreeColours town = new ThreeColours();
        Due.due("17: nothing", town.end(0), 0);
        Due.due("17: more than it has", town.end(1), -1);
        town.feed(1, 2, 3, 4, 5);
        Due.due("17: below 0", town.end(-1), -1);
        Due.due("17: far below 0", town.end(Integer.MIN_VALUE), -1);
        Due.due("17: 21", town.end(21), -1);
        Due.due("17: as it is", town.end(20), 20);
        Due.due("17: 7", town.end(7), 7);
        Due.due("17: has 7", town.count(5), 7);
        Due.due("17: 8 are gone", town.end(8), -1);
        Due.due("16: behind the first 7", town.feed(0, 0, 0, 0, 0), 27);
        Due.due("17: not refused", town.status(), 0);
    }

    private static String bytes(int... numbers) {
        StringBuilder text = new StringBuilder();
        for (int number : numbers) {
            text.append((char) number);
        }
        return text.toString();
    }

    private static void rows() {
        ThreeColours town = new ThreeColours();
        Due.due("18: an empty tape", town.row(), -6);
        Due.due("19: ahead of any", town.spoilt(), 0);
        town.person(0);
        town.person(0);
        Due.tape(town, bytes(0, 0, 0, 1, 119, 9, 0, 3, 255));
        Due.due("18: three", town.row(), 3);
        Due.due("18: the tape is empty", town.count(5), 0);
        Due.due("19: none spoilt", town.spoilt(), 0);
        Due.due("18: walks", town.count(4), 3);
        Due.due("18: where", town.where(1, 119), 9);
        Due.due("18: home", town.where(0, 3), -1);
        Due.tape(town, bytes(2, 0, 0, 0, 120, 0, 0, 0, 10, 0, 0, 254, 255, 1, 1, 1, 5, 5));
        Due.due("18: one of six", town.row(), 1);
        Due.due("19: five", town.spoilt(), 5);
        Due.due("18: refused", town.row(), -6);
        Due.due("19: of the latest that was not refused", town.spoilt(), 5);
        Due.tape(town, bytes(0, 1, 2, 0));
        Due.due("18: one and a byte", town.row(), 1);
        Due.due("19: the tape ends within one", town.spoilt(), 1);
        Due.tape(town, bytes(0, 1));
        Due.due("18: two bytes", town.row(), 0);
        Due.due("19: one", town.spoilt(), 1);
        Due.due("18: not refused", town.status(), 0);
        while (town.count(4) < 58) {
            town.walk(0, 0, 0);
        }
        Due.tape(town, bytes(0, 1, 1, 9, 9, 9, 0, 1, 2, 0, 1, 3, 0, 1, 4));
        Due.due("18: room for two", town.row(), 2);
        Due.due("19: three spoilt", town.spoilt(), 3);
        Due.due("18: the last that came", town.where(0, 1), 2);
        Due.due("18: sixty", town.count(4), 60);
        Due.due("18: no -5", town.count(9), 0);
    }

    private static void laws() {
        ThreeColours town = new ThreeColours();
        Due.due("21: none", town.fault(), -1);
        Due.due("20: an empty tape", town.law(), -6);
        Due.due("21: at the end", town.fault(), 0);
        Due.due("20: the first", Due.law(town, "limit 3"), 0);
        Due.due("21: without", town.fault(), -1);
        Due.due("20: the tape is empty", town.count(5), 0);
        Due.due("20: blanks alone", Due.law(town, "     "), -6);
        Due.due("21: at the end of the blanks", town.fault(), 5);
        Due.due("20: the tape is empty", town.count(5), 0);
        Due.due("20: one law", town.count(3), 1);
        for (int i = 1; i < 6; i++) {
            Due.due("20: its number", Due.law(town, "free"), i);
        }
        Due.law(town, "limit 3");
        Due.due("20: a seventh", Due.law(town, "limit"), -5);
        Due.due("20: the tape is empty then, too", town.count(5), 0);
        Due.due("21: it read no text", town.fault(), -1);
        Due.due("20: status", town.status(), -5);
        Due.due("20: no room ahead of an empty text", town.law(), -5);
        town = new ThreeColours();
        Due.law(town, "limit");
        for (int i = 0; i < 6; i++) {
            Due.law(town, "hidden");
        }
        Due.due("21: without since", town.fault(), -1);
        town = new ThreeColours();
        for (int i = 0; i < 5; i++) {
            Due.law(town, "hidden");
        }
        Due.law(town, "limit ]");
        town.image(0);
        Due.law(town, "free");
        Due.law(town, "free");
        Due.due("21: without a fault", town.fault(), -1);
        town.back(0);
        Due.law(town, "free if");
        Due.law(town, "free");
        Due.law(town, "limit 3");
        Due.due("21: of the latest that read a text", town.fault(), -1);
    }

    private static void goodTexts() {
        String[] good = {
            "limit 3", "  limit   3  ", "limit3", "limit 1000", "limit 0", "limit 0000000001000", "cost colour*2+thing",
            "free", "hidden", "free;hidden;free", " free ; hidden ", "limit [3]", "limit [[3]+1]*2/4-1",
            "free if colour=1", "free if not colour=1", "free if not not not colour<1", "free if (colour>1)",
            "free if ((colour>1) and (sort=2)) or month=3 and not (minute<5)", "free if1=1or2=2and3=3",
            "limit window+thing+place+colour+sort+month+minute+coat+person if window=thing", "limit 1 if 1=1;limit 2",
            "free if [1]+[2]=[3]", "free if(1=1)", "limit 3if 1=1", "free if not(not(1=1))"};
        for (String text : good) {
            ThreeColours town = new ThreeColours();
            Due.due("20: '" + text + "'", Due.law(town, text), 0);
            Due.due("21: '" + text + "'", town.fault(), -1);
            Due.due("20: status", town.status(), 0);
        }
    }

    private static void fault(String text, int place) {
        ThreeColours town = new ThreeColours();
        Due.due("20: '" + text + "'", Due.law(town, text), -6);
        Due.due("21: '" + text + "'", town.fault(), place);
        Due.due("20: none came", town.count(3), 0);
        Due.due("20: refused", town.count(10), 1);
    }

    private static void faults() {
        fault("limit", 5);
        fault("limit  ", 7);
        fault("cost if 1=1", 5);
        fault("free 3", 5);
        fault("hidden hidden", 7);
        fault("limits 3", 0);
        fault("freez", 0);
        fault("afree", 0);
        fault("if 1=1", 0);
        fault("limit limit", 6);
        fault("limit 3z", 7);
        fault("  Limit 3", 2);
        fault("lim it 3", 0);
        fault("limit 3 3", 8);
        fault("limit 3;", 8);
        fault("limit 3;;free", 8);
        fault(";free", 0);
        fault("limit 1001", 6);
        fault("limit 99999999999999999999", 6);
        fault("limit 1000+1001", 11);
        fault("limit -3", 6);
        fault("limit 3-", 8);
        fault("limit 3+*2", 8);
        fault("limit 3*", 8);
        fault("limit 3/", 8);
        fault("limit 3*/2", 8);
        fault("limit 3*4*;free", 10);
        fault("free if 1=2*", 12);
        fault("free if 1*=2", 10);
        fault("limit (3)", 6);
        fault("limit [3", 8);
        fault("limit [3)", 8);
        fault("limit 3]", 7);
        fault("limit []", 7);
        fault("limit colours", 6);
        fault("limit if", 6);
        fault("free if", 7);
        fault("free if 1", 9);
        fault("free if 1=", 10);
        fault("free if 1==1", 10);
        fault("free if 1<=1", 10);
        fault("free if 1=1=1", 11);
        fault("free if 1=1 or", 14);
        fault("free if 1=1 and or 2=2", 16);
        fault("free if not", 11);
        fault("free if 1=not 1", 10);
        fault("free if (1=1", 12);
        fault("free if (1=1]", 12);
        fault("free if (1)=1", 10);
        fault("free if 1=1)", 11);
        fault("free if [1=1]", 10);
        fault("free if 1=1 if 2=2", 12);
        fault("free if if", 8);
        fault("free if 1=1;limit", 17);
        fault("limit 3\t", 7);
        fault("limit 3\n;free", 7);
        fault("\u0000free", 0);
        fault("free\u0000", 4);
        fault("free\u00ff", 4);
        fault("limit 3.5", 7);
        fault("free if month = june", 16);
        fault("free if a", 8);
        fault("free iff 1=1", 5);
        fault("freeif 1=1", 0);
        fault("limit 12a", 8);
    }

    private static String times(String text, int n, String between) {
        StringBuilder all = new StringBuilder();
        for (int i = 0; i < n; i++) {
            all.append(i == 0 ? "" : between).append(text);
        }
        return all.toString();
    }

    private static void bounds() {
        ThreeColours town = new ThreeColours();
        Due.due("20: twelve clauses", Due.law(town, times("free", 12, ";")), 0);
        fault(times("free", 13, ";"), 60);
        fault(times("free", 12, ";") + ";", 60);
        fault(times("free", 12, ";") + "  ;  x", 64);
        fault(times("free", 12, ";") + "  x", 61);
        Due.due("20: fifty parts", Due.law(town, "limit " + times("1", 50, "+")), 1);
        fault("limit " + times("1", 51, "+"), 6 + 100);
        fault("free if 1=1 or " + times("sort", 3, "<"), 15 + 9);
        Due.due("20: 48 parts of two kinds", Due.law(town, "limit " + times("1", 24, "+") + " if "
                + times("sort", 24, "-").replaceFirst("-", "=")), 2);
        fault("limit " + times("1", 25, "+") + " if " + times("coat", 26, "-").replaceFirst("-", "="),
                6 + 49 + 4 + 25 * 5);
        fault("limit " + times("1", 25, "+") + ";limit " + times("1", 26, "+"), 6 + 49 + 7 + 50);
        Due.due("20: eight brackets", Due.law(town, "limit [[[[[[[[1]]]]]]]]"), 3);
        fault("limit [[[[[[[[[1]]]]]]]]]", 14);
        Due.due("20: eight of both kinds", Due.law(town, "free if ((((([[[1]]]=1)))))"), 4);
        fault("free if ((((([[[[1]]]]=1)))))", 8 + 8);
        fault("free if (((((((((1=1)))))))))", 8 + 8);
        Due.due("20: side by side they are not within one another",
                Due.law(town, "limit [1]+[1]+[1]+[1]+[1]+[1]+[1]+[1]+[1]+[[[[[[[[1]]]]]]]]"), 5);
        town = new ThreeColours();
        Due.due("20: nots without end", Due.law(town, "free if " + times("not ", 97, "") + "1=1"), 0);
        town.force(0);
        town.thing(0, 1, 1, 0, 0);
        town.window(1, 0, 0);
        Due.due("20: an odd number of nots", town.sees(0, 0, 0), 2);
        town = new ThreeColours();
        Due.due("20: an even number", Due.law(town, "free if " + times("not ", 96, "") + "1=1"), 0);
        town.force(0);
        town.thing(0, 1, 1, 0, 0);
        town.window(1, 0, 0);
        Due.due("20: an even number of nots", town.sees(0, 0, 0), 0);
        fault("free if " + times("not ", 98, ""), 400);
        fault(times("(", 400, ""), 0);
        fault("free if " + times("(", 392, ""), 16);
        fault("limit " + times("[", 394, ""), 14);
        fault(times("a", 400, ""), 0);
        fault("limit " + times("9", 394, ""), 6);
        Due.due("20: zeros without end", Due.law(new ThreeColours(), "limit " + times("0", 393, "") + "7"), 0);
    }

    private static void forcing() {
        ThreeColours town = new ThreeColours();
        Due.due("22: none", town.force(-1), -1);
        Due.due("22: no law 0", town.force(0), -2);
        Due.due("22: none in force", town.count(11), -1);
        Due.law(town, "limit 1");
        Due.law(town, "limit 2");
        town.window(0, 0, 0);
        Due.due("22: not in force by itself", town.sees(0, 0, 1), 3);
        Due.due("22: was none", town.force(1), -1);
        Due.due("22: law 1", town.sees(0, 0, 1), 2);
        Due.due("22: was 1", town.force(0), 1);
        Due.due("22: law 0", town.sees(0, 0, 1), 1);
        Due.due("22: no law 2", town.force(2), -2);
        Due.due("22: status", town.status(), -2);
        Due.due("22: below none", town.force(-2), -2);
        Due.due("22: far below", town.force(Integer.MIN_VALUE), -2);
        Due.due("22: still 0", town.count(11), 0);
        Due.due("22: none again", town.force(-1), 0);
        Due.due("22: three without", town.sees(0, 0, 1), 3);
    }
}
