import java.util.function.Supplier;

/** What part II of the terms says about TEXTS, and promises 16 to 22. */
final class TapeBounds {
    private TapeBounds() {
    }

    static void all() {
        lawsAndTape();
        tokens();
        clauses();
        heads();
        tests();
        sums();
        partsAndBrackets();
        faults();
        feed();
        end();
        row();
        spoiltWalks();
        spoilt();
        law();
        fault();
        force();
    }

    private static void good(String text) {
        ThreeColours town = new ThreeColours();
        Bound.due("'" + text + "' is a law", Due.law(town, text), 0);
        Bound.due("'" + text + "': fault()", town.fault(), -1);
        Bound.due("'" + text + "': status()", town.status(), 0);
    }

    private static void bad(String text, int place) {
        ThreeColours town = new ThreeColours();
        Bound.due("'" + text + "' is none", Due.law(town, text), -6);
        Bound.due("'" + text + "': fault()", town.fault(), place);
        Bound.due("'" + text + "': status()", town.status(), -6);
        Bound.due("'" + text + "': count(3)", town.count(3), 0);
        Bound.due("'" + text + "': count(10)", town.count(10), 1);
    }

    private static String times(String text, int n, String between) {
        return n == 0 ? "" : text + (between + text).repeat(n - 1);
    }

    private static void lawsAndTape() {
        Bound.by("II", "LAWS are TEXTS, 6 at most, on a TAPE of at most 400 bytes; one is in FORCE (NONE at first: no CLAUSE).");
        ThreeColours town = new ThreeColours();
        town.window(0, 0, 0);
        Bound.due("none in force", town.count(11), -1);
        for (int i = 0; i < 6; i++) {
            Bound.due("law " + i, Due.law(town, "limit " + (i + 1)), i);
            Bound.due("it is not in force by itself", town.count(11), -1);
            Bound.due("no clause", town.sees(0, 0, 1), 3);
        }
        Bound.due("a seventh", Due.law(town, "limit 7"), -5);
        Bound.due("there are six", town.count(3), 6);
        town.force(5);
        Bound.due("the last is in force", town.sees(0, 0, 1), 6);
        for (int i = 1; i <= 20; i++) {
            Bound.due("the tape", town.feed(0, 0, 0, 0, 0), 20 * i);
        }
        Bound.due("400 bytes are all", town.feed(0, 0, 0, 0, 0), -1);
        Bound.due("400 bytes", town.count(5), 400);
        town = new ThreeColours();
        town.window(0, 0, 0);
        for (int i = 0; i < 6; i++) {
            Bound.due("six of fifty parts each", Due.law(town, "limit " + times("1", i + 3, "+") + times("+0", 47 - i, "")), i);
        }
        for (int i = 5; i >= 0; i--) {
            town.force(i);
            Bound.due("each is as it was read", town.sees(0, 0, 1), i + 3);
        }
        good("limit 3" + " ".repeat(393));
        good("limit " + "0".repeat(393) + "8");
        good("limit " + " ".repeat(390) + "coat");
        good("limit 1 if 1" + " ".repeat(386) + "=1");
        bad("limit " + " ".repeat(393) + "w", 399);
        good("limit " + " ".repeat(388) + "person");
        bad("limit " + " ".repeat(389) + "perso", 395);
    }

    private static void tokens() {
        Bound.by("II", "TOKENS: longest rows of letters a .. z, of digits, single other bytes, any blanks (32) between.");
        good("limit3");
        good("limit3if1=1or2=2");
        good("limit 9if 1=1");
        good("limit 0if 1=1");
        bad("freea", 0);
        bad("freez", 0);
        bad("free`", 4);
        bad("free{", 4);
        bad("`free", 0);
        bad("{free", 0);
        bad("freeA", 4);
        bad("freeZ", 4);
        bad("Free", 0);
        bad("fr ee", 0);
        bad("limit 3 0", 8);
        bad("limit 9:", 7);
        bad("limit :", 6);
        bad("limit 1a", 7);
        bad("limit window1", 12);
        good("     limit     3     ");
        bad("limit\u001f3", 5);
        bad("limit!3", 5);
        bad("limit\t3", 5);
        bad("limit\n3", 5);
        bad("limit 3\u0000", 7);
        bad("limit 3\u007f", 7);
        bad("limit 3\u0080", 7);
        bad("limit 3\u00ff", 7);
        for (char sign = 0; sign < 256; sign++) {
            everyByte(sign);
        }
        bad("free;;free", 5);
        bad("limit ++3", 6);
        bad("limit 3>>2", 7);
    }

    /** A byte where a CLAUSE begins and ends, where a NUMBER ends, where a PART begins, and between two SUMS. */
    private static void everyByte(char sign) {
        boolean blank = sign == 32;
        boolean letter = sign >= 'a' && sign <= 'z';
        boolean digit = sign >= '0' && sign <= '9';
        boolean between = sign == '+' || sign == '-' || sign == '*' || sign == '/';
        boolean compares = sign == '<' || sign == '>' || sign == '=';
        read(sign + "free", blank ? -1 : 0);
        read("free" + sign, blank ? -1 : letter ? 0 : sign == ';' ? 5 : 4);
        read("limit 3" + sign, blank || digit ? -1 : between || sign == ';' ? 8 : 7);
        read("limit " + sign, digit ? -1 : blank || sign == '[' ? 7 : 6);
        read("free if 1" + sign + "1", compares ? -1 : digit || between ? 11 : blank ? 10 : 9);
    }

    /** A LAW (-1), or none with the FAULT there. */
    private static void read(String text, int fault) {
        if (fault < 0) {
            good(text);
        } else {
            bad(text, fault);
        }
    }

    private static void clauses() {
        Bound.by("II", "CLAUSE {\";\" CLAUSE}, 12 at most (FAULT at the 13th's first TOKEN).");
        good("free");
        good("free;hidden");
        good(times("free", 12, ";"));
        good(times("free", 12, " ; ") + "  ");
        bad(times("free", 13, ";"), 60);
        bad(times("free", 14, ";"), 60);
        bad(times("free", 12, ";") + ";   free", 63);
        bad(times("free", 12, ";") + ";", 60);
        bad(times("free", 12, ";") + ";  ", 62);
        bad(times("free", 12, ";") + ";;", 60);
        bad(times("free", 12, ";") + ";x", 60);
        bad(times("free", 12, ";") + " x", 60);
        bad(times("free", 11, ";") + ";", 55);
        bad(times("limit 1", 13, ";"), 96);
        bad("free;", 5);
        bad("free hidden", 5);
        bad("free,hidden", 4);
        bad("", 0);

        Bound.by("II", "CLAUSE: HEAD [\"if\" TEST].");
        good("free if 1=1");
        bad("free 1=1", 5);
        bad("free if", 7);
        bad("free if;free", 7);
        bad("if 1=1", 0);
        bad("free if 1=1 if 1=1", 12);
        bad("free iff 1=1", 5);
    }

    private static void heads() {
        Bound.by("II", "HEAD: \"limit\" SUM | \"cost\" SUM | \"free\" | \"hidden\".");
        good("limit 1");
        good("cost 1");
        good("free");
        good("hidden");
        bad("limit", 5);
        bad("cost", 4);
        bad("limit;free", 5);
        bad("cost if 1=1", 5);
        bad("free 1", 5);
        bad("hidden 1", 7);
        bad("limits 1", 0);
        bad("limi 1", 0);
        bad("window", 0);
        bad("not", 0);
        bad("1", 0);
    }

    private static void tests() {
        Bound.by("II", "TEST: BOTH {\"or\" BOTH}. BOTH: PLAIN {\"and\" PLAIN}.");
        good("free if " + times("1=1", 25, " or "));
        good("free if " + times("1=1", 25, " and "));
        good("free if 1=1 and 1=1 or 1=1 and 1=1");
        bad("free if 1=1 or", 14);
        bad("free if 1=1 and", 15);
        bad("free if or 1=1", 8);
        bad("free if and 1=1", 8);
        bad("free if 1=1 or or 1=1", 15);
        bad("free if 1=1 and and 1=1", 16);
        bad("free if 1=1 1=1", 12);

        Bound.by("II", "PLAIN: \"not\" PLAIN | \"(\" TEST \")\" | SUM (\"<\" | \">\" | \"=\") SUM.");
        good("free if not 1=1");
        good("free if " + "not ".repeat(97) + "1=1");
        bad("free if " + "not ".repeat(98), 400);
        bad("free if not", 11);
        bad("free if not;", 11);
        bad("free if 1=1 not 1=1", 12);
        good("free if (1=1)");
        good("free if not (not (1=1) or 1=2)");
        bad("free if (1=1", 12);
        bad("free if ()", 9);
        bad("free if 1=1)", 11);
        bad("free if (1)", 10);
        bad("free if (1)=1", 10);
        bad("free if (1=1]", 12);
        good("free if 1<1");
        good("free if 1>1");
        good("free if 1=1");
        bad("free if 1", 9);
        bad("free if 1;", 9);
        bad("free if 1 1", 10);
        bad("free if 1 1=1", 10);
        bad("free if 1[1]", 9);
        bad("free if 1 window=1", 10);
        bad("free if 1 and 1=1", 10);
        bad("free if 1 not 1=1", 10);
        bad("free if 1(1=1)", 9);
        bad("free if (1=1)(1=1)", 13);
        bad("free if (1=1 or)", 15);
        bad("free if 1=(1)", 10);
        bad("free if 1=not 1", 10);
        bad("free if 1=", 10);
        bad("free if =1", 8);
        bad("free if 1=1=1", 11);
        bad("free if 1<=1", 10);
        bad("free if 1<>1", 10);
        bad("free if 1=>1", 10);
    }

    private static void sums() {
        Bound.by("II", "SUM: TERM {(\"+\" | \"-\") TERM}. TERM: PART {(\"*\" | \"/\") PART}.");
        good("limit 1+2-3*4/5");
        good("limit " + times("1", 50, "+"));
        good("limit " + times("1", 50, "/"));
        bad("limit -1", 6);
        bad("limit +1", 6);
        bad("limit 1+", 8);
        bad("limit 1-", 8);
        bad("limit 1*", 8);
        bad("limit 1/", 8);
        bad("limit 1+-1", 8);
        bad("limit 1*-1", 8);
        bad("limit *1", 6);
        bad("limit 1**1", 8);
        bad("limit 1 1", 8);

        Bound.by("II", "PART: NUMBER (to 1,000) | \"[\" SUM \"]\" | \"window\" | \"thing\" | \"place\" | \"colour\" | \"sort\" | "
                + "\"month\" | \"minute\" | \"coat\" | \"person\".");
        good("limit 0");
        good("limit 1000");
        bad("limit 1001", 6);
        bad("limit 1002", 6);
        bad("limit 1010", 6);
        bad("limit 9999", 6);
        bad("limit 10000", 6);
        bad("limit 4294967296", 6);
        bad("limit 4294967297", 6);
        bad("limit 18446744073709551616", 6);
        bad("limit " + "9".repeat(394), 6);
        good("limit 0000000000000000000000001000");
        bad("limit 0000000000000000000000001001", 6);
        bad("limit 1+1001", 8);
        bad("limit 1000+1+1001 if", 13);
        for (String word : new String[] {"window", "thing", "place", "colour", "sort", "month", "minute", "coat", "person"}) {
            good("limit " + word);
            good("cost " + word);
            good("free if " + word + "=0");
            bad("limit " + word + "s", 6);
            bad("limit " + word.substring(1), 6);
            bad("limit " + word.substring(0, word.length() - 1), 6);
            bad(word, 0);
        }
        for (String word : new String[] {"limit", "cost", "free", "hidden", "if", "or", "and", "not"}) {
            bad("limit " + word, 6);
        }
        good("limit [1]");
        bad("limit []", 7);
        bad("limit [1", 8);
        bad("limit 1]", 7);
        bad("limit [1)", 8);
        bad("limit (1)", 6);
        bad("limit [1=1]", 8);
        bad("limit [not 1=1]", 7);
    }

    private static void partsAndBrackets() {
        Bound.by("II", "50 PARTS that are NUMBERS and words (FAULT at the 51st),");
        good("limit " + times("1", 50, "+"));
        bad("limit " + times("1", 51, "+"), 6 + 2 * 50);
        bad("limit " + times("1", 52, "+"), 6 + 2 * 50);
        good("limit " + times("coat", 50, "+"));
        bad("limit " + times("coat", 51, "+"), 6 + 5 * 50);
        bad("limit " + times("1", 50, "+") + "+1001", 6 + 2 * 50);
        good("limit " + times("1", 25, "+") + " if " + times("1", 24, "+") + "=sort");
        bad("limit " + times("1", 25, "+") + " if " + times("1", 25, "+") + "=sort", 6 + 49 + 4 + 50);
        good("limit " + times("1", 25, "+") + ";limit " + times("1", 25, "+"));
        bad("limit " + times("1", 25, "+") + ";limit " + times("1", 25, "+") + "+sort", 6 + 49 + 7 + 50);
        good("limit " + times("[1]", 50, "+"));
        bad("limit " + times("[1]", 51, "+"), 6 + 4 * 50 + 1);
        good("free if " + times("1=1", 25, "or"));
        bad("free if " + times("1=1", 26, "or"), 8 + 5 * 25);
        bad("limit " + times("1", 50, "+") + "+", 6 + 2 * 50);
        bad("limit " + times("1", 50, "+") + "+]", 6 + 2 * 50);

        ThreeColours town = new ThreeColours();
        for (int i = 0; i < 5; i++) {
            Bound.due("each text has its own fifty", Due.law(town, "limit " + times("1", 50, "+")), i);
            Bound.due("whatever came ahead of it", Due.law(town, "limit " + times("1", 51, "+")), -6);
            Bound.due("at the 51st", town.fault(), 6 + 2 * 50);
        }
        Bound.due("and its own twelve clauses", Due.law(town, times("free", 12, ";")), 5);

        Bound.by("II", "8 brackets of both kinds within one another (FAULT at the 9th) at most.");
        good("limit " + "[".repeat(8) + "1" + "]".repeat(8));
        bad("limit " + "[".repeat(9) + "1" + "]".repeat(9), 6 + 8);
        bad("limit " + "[".repeat(394), 6 + 8);
        good("free if " + "(".repeat(8) + "1=1" + ")".repeat(8));
        bad("free if " + "(".repeat(9) + "1=1" + ")".repeat(9), 8 + 8);
        bad("free if " + "(".repeat(392), 8 + 8);
        good("free if " + "(".repeat(7) + "[1]=[1]" + ")".repeat(7));
        bad("free if " + "(".repeat(7) + "1=[[1]]" + ")".repeat(7), 8 + 7 + 3);
        good("free if " + "(".repeat(4) + "[[[[1]]]]=1" + ")".repeat(4));
        bad("free if " + "(".repeat(4) + "[[[[[1]]]]]=1" + ")".repeat(4), 8 + 8);
        bad("free if " + "(".repeat(8) + "[1]=1" + ")".repeat(8), 8 + 8);
        good("limit " + times("[[[[[[[[1]]]]]]]]", 3, "+"));
        bad("limit " + times("[[[[[[[[1]]]]]]]]", 3, "+") + "+[[[[[[[[[1", 6 + 3 * 18 + 8);
        good("free if ((((((((1=1)))))))) or ((((((((1=1))))))))");
        good("free if " + times("(1=1)", 25, " or "));
        good("free if " + times("([1]=[1])", 25, "and"));
        good("free if " + times("(([1]=[1]))", 25, "or"));
        good("limit " + times("[[1]]", 50, "+"));
        good("free if (not (not (not (not (not (not (not (1=1))))))))");
        bad("free if (not (not (not (not (not (not (not (not (1=1)))))))))", 8 + 8 * 5);
        good("limit [[[[[[[[1]]]]]]]] if [[[[[[[[1]]]]]]]]=1");
    }

    private static void faults() {
        Bound.by("II", "FAULT: the first TOKEN that can't go on there (the end's: the TEXT's length).");
        bad("x", 0);
        bad("   x", 3);
        bad("free x y z", 5);
        bad("limit", 5);
        bad("limit   ", 8);
        bad("limit 3 +   ", 12);
        bad("  ", 2);
        bad(" ".repeat(400), 400);
        bad("limit" + " ".repeat(395), 400);
        bad("free" + " ".repeat(395) + "x", 399);
        bad("free" + " ".repeat(395) + ";", 400);
        bad("a".repeat(400), 0);
        bad("free;" + "a".repeat(395), 5);
        bad("free if 1=1 and 2=2 or [3]]=3", 26);
    }

    private static void feed() {
        Bound.by(16, "Twenty bytes come behind the TAPE, four of each number, the highest first: how many it has.");
        ThreeColours town = new ThreeColours();
        town.person(0);
        town.person(0);
        Bound.due("the first twenty", town.feed(0x00010200, 0x02030003, 0x04000405, 0x00050601, 0x7709FFFF), 20);
        Bound.due("twenty more", town.feed(0xFF000000, 0, 0, 0, 0), 40);
        Bound.due("they are no call that is REFUSED", town.status(), 0);
        town.end(20);
        Bound.due("six walks", town.row(), 6);
        int[] due = {-1, 2, 3, 4, 5, 6};
        for (int minute = 0; minute < due.length; minute++) {
            Bound.due("where at " + minute, town.where(0, minute), due[minute]);
        }
        Bound.due("the sixth", town.where(1, 119), 9);
        Bound.due("the last two bytes", town.spoilt(), 1);
        Bound.due("behind 0 bytes", town.feed(0x00FFFF00, 0x0AFF0000, -1, -1, -1), 20);
        town.end(7);
        Bound.due("behind 7 bytes", town.feed(0x0BFF0000, 0, 0, 0, 0), 27);
        town.end(9);
        Bound.due("255 is no minute, then twice home", town.row(), 2);
        Bound.due("where at 10", town.where(0, 10), -1);
        Bound.due("where at 9", town.where(0, 9), 6);
        good("limit 3 if\u0020window=7" + " ".repeat(380));

        Bound.by(16, "NONE, if there would be more than 400.");
        town = Towns.empty();
        for (int i = 1; i <= 19; i++) {
            town.feed(0x20202020, 0x20202020, 0x20202020, 0x20202020, 0x20202020);
        }
        Bound.due("380 bytes and twenty", town.feed(0x66726565, 0x20202020, 0x20202020, 0x20202020, 0x2020203B), 400);
        Bound.due("and twenty more", town.feed(0, 0, 0, 0, 0), -1);
        Bound.due("none of them came", town.count(5), 400);
        Bound.due("nor was it REFUSED", town.status(), 0);
        Bound.due("nor counted as that", town.count(6) + town.count(9), 0);
        Bound.due("the tape is as it was: a text whose end is missing", town.law(), -6);
        Bound.due("at 400", town.fault(), 400);
        for (int n = 379; n <= 400; n++) {
            int at = n;
            Supplier<ThreeColours> made = () -> {
                ThreeColours it = Towns.full();
                it.end(at);
                return it;
            };
            if (n <= 380) {
                Bound.due(n + " bytes and twenty", made.get().feed(0, 0, 0, 0, 0), n + 20);
            } else if (n < 383 || n > 398) {
                Bound.leaves(n + " bytes and twenty", made, -1, it -> it.feed(-1, -1, -1, -1, -1));
            } else {
                Bound.due(n + " bytes and twenty", made.get().feed(0, 0, 0, 0, 0), -1);
            }
        }
    }

    private static void end() {
        Bound.by(17, "The TAPE has its first n bytes alone: n.");
        ThreeColours town = new ThreeColours();
        Bound.due("none of none", town.end(0), 0);
        town.feed(0x66726565, 0x3B3B3B3B, 0, 0, 0);
        Bound.due("all", town.end(20), 20);
        Bound.due("count(5)", town.count(5), 20);
        Bound.due("all but one", town.end(19), 19);
        Bound.due("the first four", town.end(4), 4);
        Bound.due("count(5)", town.count(5), 4);
        Bound.due("those are a law", town.law(), 0);
        String[][] cut = {{"limit 1001", "9", "-1"}, {"limit 1001", "10", "6"}, {"limit sorts", "10", "-1"}, {"limit sorts", "9", "6"},
            {"limit 3", "4", "0"}, {"limit 3;", "7", "-1"}, {"limit 3;", "8", "8"}, {"free if 1=1", "10", "10"}};
        for (String[] row : cut) {
            ThreeColours it = new ThreeColours();
            Due.tape(it, row[0]);
            it.end(Integer.parseInt(row[1]));
            it.law();
            Bound.due("the first " + row[1] + " of '" + row[0] + "' are read", it.fault(), Integer.parseInt(row[2]));
        }
        town.feed(1, 1, 1, 1, 1);
        Bound.due("none of twenty", town.end(0), 0);
        Bound.due("count(5)", town.count(5), 0);
        Bound.due("400 of 400", Towns.full().end(400), 400);

        Bound.by(17, "NONE, if it has not so many, or n is below 0.");
        Bound.asks("end", Towns::busy, new int[] {3}, new int[][] {{0, 7}}, -1, (it, n) -> it.end(n[0]));
        Bound.asks("end", Towns::full, new int[] {3}, new int[][] {{0, 400}}, -1, (it, n) -> it.end(n[0]));
        Bound.asks("end", Towns::empty, new int[] {0}, new int[][] {{0, 0}}, -1, (it, n) -> it.end(n[0]));
        town = new ThreeColours();
        town.feed(1, 1, 1, 1, 1);
        town.end(5);
        Bound.due("what was cut off does not come again", town.end(6), -1);
    }

    private static void row() {
        Bound.by(18, "A ROW of WALKS, the TAPE is empty then: how many came.");
        ThreeColours town = Towns.busy();
        Bound.due("two and a byte", town.row(), 2);
        Bound.due("status()", town.status(), 0);
        Bound.due("the tape is empty", town.count(5), 0);
        Bound.due("walks", town.count(4), 6);
        town.feed(-1, -1, -1, -1, -1);
        Bound.due("none of seven", town.row(), 0);
        Bound.due("it is not REFUSED", town.status(), 0);
        Bound.due("the tape is empty", town.count(5), 0);
        Bound.due("no walk came", town.count(4), 6);
        town = Towns.full();
        Bound.due("133 and a byte, and no room", town.row(), 0);
        Bound.due("it is not REFUSED by -5", town.status(), 0);
        Bound.due("nor counted so", town.count(9), 0);
        Bound.due("all 134 are spoilt", town.spoilt(), 134);

        Bound.by(18, "-6 the TAPE is empty.");
        Supplier<ThreeColours> emptied = () -> {
            ThreeColours it = Towns.busy();
            it.end(0);
            return it;
        };
        Bound.refused("after end(0)", emptied, -6, ThreeColours::row);
        Bound.refused("at first", Towns::empty, -6, ThreeColours::row);
        Supplier<ThreeColours> rowed = () -> {
            ThreeColours it = Towns.busy();
            it.row();
            return it;
        };
        Bound.refused("after a row", rowed, -6, ThreeColours::row);
        Supplier<ThreeColours> read = () -> {
            ThreeColours it = Towns.busy();
            it.law();
            return it;
        };
        Bound.refused("after a law", read, -6, ThreeColours::row);
        town = emptied.get();
        town.feed(0, 0, 0, 0, 0);
        town.end(1);
        Bound.due("one byte is not empty", town.row(), 0);
        Bound.due("status()", town.status(), 0);
    }

    private static int rowOf(int people, int walks, String text) {
        ThreeColours town = new ThreeColours();
        for (int i = 0; i < people; i++) {
            town.person(0);
        }
        if (walks > 0) {
            Towns.walks(town, walks);
        }
        Due.tape(town, text);
        int came = town.row();
        Bound.due("what came is kept", town.count(4), walks + came);
        return 100 * came + town.spoilt();
    }

    private static void spoiltWalks() {
        Bound.by("IV", "A ROW of WALKS: the TAPE's bytes by threes: one, MINUTE, PLACE (255: home); one that can't be, one within "
                + "which the TAPE ends, one for which there is no room is SPOILT: none.");
        Bound.due("one 0 of one", rowOf(1, 0, "\u0000\u0000\u0000"), 100);
        Bound.due("one 1 of one", rowOf(1, 0, "\u0001\u0000\u0000"), 1);
        Bound.due("one 4 of five", rowOf(5, 0, "\u0004\u0000\u0000"), 100);
        Bound.due("one 5 of five", rowOf(5, 0, "\u0005\u0000\u0000"), 1);
        Bound.due("one 255", rowOf(5, 0, "\u00ff\u0000\u0000"), 1);
        Bound.due("nobody", rowOf(0, 0, "\u0000\u0000\u0000"), 1);
        Bound.due("minute 119", rowOf(1, 0, "\u0000\u0077\u0000"), 100);
        Bound.due("minute 120", rowOf(1, 0, "\u0000\u0078\u0000"), 1);
        Bound.due("minute 128", rowOf(1, 0, "\u0000\u0080\u0000"), 1);
        Bound.due("minute 255", rowOf(1, 0, "\u0000\u00ff\u0000"), 1);
        Bound.due("place 9", rowOf(1, 0, "\u0000\u0000\u0009"), 100);
        Bound.due("place 10", rowOf(1, 0, "\u0000\u0000\n"), 1);
        Bound.due("place 128", rowOf(1, 0, "\u0000\u0000\u0080"), 1);
        Bound.due("place 254", rowOf(1, 0, "\u0000\u0000\u00fe"), 1);
        Bound.due("place 255", rowOf(1, 0, "\u0000\u0000\u00ff"), 100);
        Bound.due("one byte", rowOf(1, 0, "\u0000"), 1);
        Bound.due("two bytes", rowOf(1, 0, "\u0000\u0000"), 1);
        Bound.due("four bytes", rowOf(1, 0, "\u0000\u0000\u0000\u0000"), 101);
        Bound.due("five bytes", rowOf(1, 0, "\u0000\u0000\u0000\u0000\u0000"), 101);
        Bound.due("six bytes", rowOf(1, 0, "\u0000\u0000\u0000\u0000\u0000\u0000"), 200);
        Bound.due("the 60th", rowOf(1, 59, "\u0000\u0000\u0000"), 100);
        Bound.due("the 61st", rowOf(1, 59, "\u0000\u0000\u0000\u0000\u0000\u0000"), 101);
        Bound.due("no room for any", rowOf(1, 60, "\u0000\u0000\u0000"), 1);
        Bound.due("one that can't be takes no room", rowOf(1, 59, "\u0001\u0000\u0000\u0000\u0000\u0000"), 101);
        Bound.due("400 bytes: 60 of 133, and a byte", rowOf(1, 0, "\u0000".repeat(400)), 6000 + 74);
        ThreeColours town = new ThreeColours();
        town.person(0);
        Due.tape(town, "\u0000\u0005\u0003\u0000\u0009\u00ff\u0000\u0005\u0004\u0000\u0006");
        Bound.due("three, and two bytes", town.row(), 3);
        Bound.due("of the same minute the last one counts", town.where(0, 5), 4);
        Bound.due("home is told by 255", town.where(0, 9), -1);
        Bound.due("a spoilt one is none", town.where(0, 6), 4);
    }

    private static void spoilt() {
        Bound.by(19, "How many were SPOILT in the latest row() that was not REFUSED (0 ahead of any).");
        ThreeColours town = new ThreeColours();
        Bound.due("ahead of any", town.spoilt(), 0);
        Bound.due("a row() that is REFUSED", town.row(), -6);
        Bound.due("still ahead of any", town.spoilt(), 0);
        town.feed(0, 0, 0, 0, 0);
        town.row();
        Bound.due("six, and two bytes", town.spoilt(), 7);
        town.row();
        Bound.due("of the latest that was not REFUSED", town.spoilt(), 7);
        town.law();
        Bound.due("a law changes nothing", town.spoilt(), 7);
        town.person(0);
        Due.tape(town, "\u0000\u0000\u0000");
        town.row();
        Bound.due("none in the latest", town.spoilt(), 0);
        Due.tape(town, "\u0001\u0000\u0000");
        town.row();
        Bound.due("one in the latest, not all together", town.spoilt(), 1);
    }

    private static void law() {
        Bound.by(20, "The TAPE, which is empty then, becomes a LAW: its number.");
        ThreeColours town = new ThreeColours();
        for (int i = 0; i < 6; i++) {
            Bound.due("the number", Due.law(town, "limit 3"), i);
            Bound.due("status()", town.status(), 0);
            Bound.due("the tape is empty", town.count(5), 0);
            Bound.due("count(3)", town.count(3), i + 1);
        }
        town = new ThreeColours();
        Due.law(town, "limit");
        Bound.due("the tape is empty of what was none, too", town.count(5), 0);
        Bound.due("what was none has no number", Due.law(town, "limit 3"), 0);

        Bound.by(20, "-5 (ahead of reading it; the TAPE is empty then, too);");
        for (String text : new String[] {"limit 3", "limit", "", "   "}) {
            town = Towns.full();
            town.end(0);
            Due.tape(town, text);
            Bound.due("a seventh, '" + text + "'", town.law(), -5);
            Bound.due("status()", town.status(), -5);
            Bound.due("the tape is empty", town.count(5), 0);
            Bound.due("there are six", town.count(3), 6);
            Bound.due("no text was read", town.fault(), -1);
            Bound.due("count(9)", town.count(9), 1);
            Bound.due("count(10)", town.count(10), 0);
            town.end(0);
            ThreeColours twin = Towns.full();
            twin.end(0);
            Bound.alike("a seventh, '" + text + "'", town, twin);
        }
        town = Towns.full();
        town.back(0);
        town.law();
        Bound.due("an image of six has no room either", town.status(), -5);
        town = new ThreeColours();
        for (int i = 0; i < 5; i++) {
            Due.law(town, "limit 1");
        }
        town.image(0);
        Bound.due("a sixth", Due.law(town, "limit 2"), 5);
        town.back(0);
        Bound.due("gone back to five there is room again", Due.law(town, "limit 7"), 5);
        Bound.due("and then no more", Due.law(town, "limit 8"), -5);
        town.force(5);
        town.window(0, 0, 0);
        Bound.due("it is the new one", town.sees(0, 0, 1), 7);

        Bound.by(20, "-6 (blanks alone: FAULT at the end).");
        for (int blanks : new int[] {0, 1, 20, 399, 400}) {
            town = Towns.busy();
            town.end(0);
            Due.tape(town, " ".repeat(blanks));
            Bound.due(blanks + " blanks", town.law(), -6);
            Bound.due("status()", town.status(), -6);
            Bound.due(blanks + " blanks: the end", town.fault(), blanks);
            Bound.due("the tape is empty", town.count(5), 0);
            Bound.due("count(3)", town.count(3), 2);
            Bound.due("count(10)", town.count(10), 2);
            Due.law(town, "limit");
            ThreeColours twin = Towns.busy();
            twin.end(0);
            Due.law(twin, "limit");
            Bound.alike(blanks + " blanks", town, twin);
        }
    }

    private static void fault() {
        Bound.by(21, "FAULT of the latest law() that read a TEXT: its place; NONE without.");
        ThreeColours town = new ThreeColours();
        Bound.due("ahead of any", town.fault(), -1);
        Due.law(town, "x");
        Bound.due("at 0", town.fault(), 0);
        Due.law(town, "free");
        Bound.due("without", town.fault(), -1);
        Due.law(town, "free" + " ".repeat(395) + ";");
        Bound.due("at 400", town.fault(), 400);
        town.law();
        Bound.due("of an empty text", town.fault(), 0);
        town.feed(0, 0, 0, 0, 0);
        town.row();
        town.image(0);
        town.back(0);
        town.force(0);
        Bound.due("other calls leave it", town.fault(), 0);
        town.image(0);
        for (int i = 0; i < 5; i++) {
            Due.law(town, "free");
        }
        town.image(1);
        town.back(0);
        Due.law(town, "limit");
        town.back(1);
        Bound.due("there are six laws", town.count(3), 6);
        Due.law(town, "free");
        Bound.due("one that was REFUSED by -5 read no text", town.fault(), 5);
    }

    private static void force() {
        Bound.by(22, "A LAW is in FORCE (NONE: none): which was.");
        ThreeColours town = Towns.full();
        Bound.due("the last was", town.force(0), 5);
        Bound.due("status()", town.status(), 0);
        Bound.due("the first was", town.force(0), 0);
        Bound.due("it stays", town.force(-1), 0);
        Bound.due("count(11)", town.count(11), -1);
        Bound.due("none was", town.force(-1), -1);
        Bound.due("status() is 0, though it answers -1", town.status(), 0);
        Bound.due("nothing was REFUSED", town.count(6), 0);
        Bound.due("three without", town.sees(0, 0, 1), 3);
        Bound.due("none was", town.force(5), -1);
        Bound.due("two by the last", town.sees(0, 0, 1), 2);

        Bound.by(22, "-2.");
        Bound.taken("the last", Towns::busy, it -> it.force(1));
        Bound.taken("none", Towns::busy, it -> it.force(-1));
        for (int none : new int[] {2, 5, 6, -2, Bound.MIN, Bound.MAX}) {
            Bound.refused("law " + none, Towns::busy, -2, it -> it.force(none));
        }
        Bound.refused("law 6 of six", Towns::full, -2, it -> it.force(6));
        Bound.refused("law 0 of none", Towns::empty, -2, it -> it.force(0));
        Bound.taken("none of none", Towns::empty, it -> it.force(-1));
        town = Towns.busy();
        town.back(0);
        Bound.due("gone back to no law", town.force(0), -2);
    }
}
