/** Terms, part 1: the bounds of a YARD, the last that is taken and the first that is wrong, and at which byte it is. */
public final class EdgeYardTest {
    private static final Check CHECK = new Check();
    private static final String DIGITS = "0123456789";

    public static void main(String[] args) {
        clauses();
        howMany();
        inAnyOrder();
        items();
        itemsOnce();
        rulesOfNumbers();
        boysOfNumbers();
        marblesOfNumbers();
        farmsOfNumbers();
        thirdDigits();
        blanks();
        tooEarly();
        owners();
        goesOn();
        goesOnBehindNumbers();
        goesOnWhenFull();
        fullTape();
        CHECK.finish();
    }

    private static void fault(String text, int due) {
        CHECK.due("fault of <" + text + ">", Check.fault(0, text), due);
    }

    private static void clauses() {
        CHECK.said(0, "A YARD is a TEXT: CLAUSES with ; between:");
        fault("b;m", -1);
        fault("b;m;", 4);
        fault(";b;m", 0);
        fault("b;;m", 2);
        fault("bm", 1);
        fault("b,m", 1);
        fault("b:m", 1);
        fault(";", 0);
    }

    private static void howMany() {
        CHECK.said(0, "s (its RULES; one at most), b (a BOY; 1 .. 5), m (a MARBLE; 1 .. 6), f (a FARM; none to 6),");
        CHECK.said(0, "a second s, a sixth b, a seventh m or f,");
        for (int s = 0; s <= 2; s++) {
            fault("b;m" + ";s".repeat(s), s <= 1 ? -1 : 6);
        }
        fault("s;s;b;m", 2);
        fault("sl3;sr1;b;m", 4);
        for (int b = 1; b <= 7; b++) {
            fault("m" + ";b".repeat(b), b <= 5 ? -1 : 12);
        }
        for (int m = 1; m <= 8; m++) {
            fault("b" + ";m".repeat(m), m <= 6 ? -1 : 14);
        }
        for (int f = 0; f <= 8; f++) {
            fault("b;m" + ";f".repeat(f), f <= 6 ? -1 : 16);
        }
        fault("b;b;b;b;b;bk9;m", 10);
        fault("m;m;m;m;m;m;mo9;b", 12);
        fault("f;f;f;f;f;f;fp99;b;m", 12);
        WeatherMarbles x = Check.yard("b;b;b;b;b;m;m;m;m;m;m;f;f;f;f;f;f;s");
        CHECK.due("marbles", x.count(0), 6);
        CHECK.due("boys", x.count(1), 5);
        CHECK.due("farms", x.count(2), 6);
        WeatherMarbles y = Check.yard("m;b");
        CHECK.due("marbles", y.count(0), 1);
        CHECK.due("boys", y.count(1), 1);
        CHECK.due("farms", y.count(2), 0);
    }

    private static void inAnyOrder() {
        CHECK.said(0, "in any order,");
        String[] parts = {"sl20", "bk9", "ms7", "fn8"};
        for (int order = 0; order < 256; order++) {
            int[] at = {order & 3, order >> 2 & 3, order >> 4 & 3, order >> 6};
            if ((1 << at[0] | 1 << at[1] | 1 << at[2] | 1 << at[3]) != 15) {
                continue;
            }
            WeatherMarbles x = Check.yard(parts[at[0]] + ";" + parts[at[1]] + ";" + parts[at[2]] + ";" + parts[at[3]]);
            CHECK.due("hole", x.rule(0), 20);
            CHECK.due("skill", x.boy(0, 0), 9);
            CHECK.due("size", x.marble(0, 2), 7);
            CHECK.due("pays", x.farm(0, 2), 8);
        }
        WeatherMarbles x = Check.yard("mo2s1;bk1;mo1s2;bk2;fn1;bk3;mo0s3;fn2");
        for (int i = 0; i < 3; i++) {
            CHECK.due("boys by their order", x.boy(i, 0), i + 1);
            CHECK.due("marbles by their order", x.marble(i, 2), i + 1);
            CHECK.due("their owners", x.marble(i, 0), 2 - i);
        }
        CHECK.due("farms by their order", x.farm(0, 2) * 10 + x.farm(1, 2), 12);
    }

    private static void items() {
        CHECK.said(0, "then ITEMS, none or more: a letter, each once at most in a CLAUSE, and a number (one or two digits):");
        fault("s;b;m;f", -1);
        fault("sl3r1c0;bk1p0;mo0w0s1;fp0w0n0", -1);
        fault("sc0r1l3;bp0k1;ms1w0o0;fn0w0p0", -1);
        fault("sl03r01c00;bk01p00;mo00w00s01;fp00w00n00", -1);
        fault("sl;b;m", 2);
        fault("sl3;bk;m", 6);
        fault("s3;b;m", 1);
        fault("b;m3", 3);
        fault("b;m;f-1", 5);
        fault("bk-1;m", 2);
        fault("bk+1;m", 2);
    }

    private static void itemsOnce() {
        CHECK.said(0, "a letter that was there,");
        String[][] letters = {{"s", "lrc"}, {"b", "kp"}, {"m", "ows"}, {"f", "pwn"}};
        for (String[] clause : letters) {
            String all = "";
            for (char first : clause[1].toCharArray()) {
                String item = first == 'o' ? "o0" : first + "3";
                fault(clause[0] + item + item, 3);
                fault(clause[0] + item + " " + item, 4);
                all += item;
            }
            for (char again : clause[1].toCharArray()) {
                fault(clause[0] + all + again + "3", 1 + all.length());
            }
        }
        fault("bk3;bk3;m", -1);
        fault("b;ms3w3;ms3w3", -1);
        fault("b;m;fn3p3w3;fn3p3w3", -1);
    }

    private static int told(WeatherMarbles x, String item) {
        switch (item) {
            case "sl": return x.rule(0);
            case "sr": return x.rule(1);
            case "sc": return x.rule(2);
            case "bk": return x.boy(0, 0);
            case "bp": return x.boy(0, 1);
            case "mo": return x.marble(0, 0);
            case "mw": return x.marble(0, 1);
            case "ms": return x.marble(0, 2);
            case "fp": return x.farm(0, 0);
            case "fw": return x.farm(0, 1);
            default: return x.farm(0, 2);
        }
    }

    private static final String REST = ";b;b;b;b;m;f";

    private static String rest(String item) {
        return item.charAt(0) == 'b' ? REST : REST + ";b";
    }

    /** Every number of one digit and of two: taken and told, or wrong at its last digit. */
    private static void numbers(String item, int least, int most, int without) {
        for (int v = 0; v <= 99; v++) {
            number(item, "" + v, v >= least && v <= most, v);
            if (v <= 9) {
                number(item, "0" + v, v >= least && v <= most, v);
            }
        }
        CHECK.due(item + " without", told(Check.yard(item.charAt(0) + rest(item)), item), without);
    }

    private static void number(String item, String digits, boolean taken, int v) {
        String text = item + digits + rest(item);
        int last = item.length() + digits.length() - 1;
        fault(text, taken ? -1 : last);
        fault(item + digits, taken ? last + 1 : last);
        fault(item + " " + digits + "  ", taken ? last + 4 : last + 1);
        WeatherMarbles x = new WeatherMarbles();
        Check.feed(x, text);
        CHECK.due("marbles of <" + text + ">", x.text(0), taken ? x.count(0) : -1);
        CHECK.due("a yard of <" + text + ">", x.count(0) > 0, taken);
        if (taken) {
            CHECK.due("told by <" + text + ">", told(x, item), v);
        }
    }

    private static void rulesOfNumbers() {
        CHECK.said(0, "a number out of bounds is wrong at its last digit,");
        CHECK.said(0, "of s: l the HOLE (3 .. 30; 12 without), r how far the DRAIN is behind it (1 .. 9; 3), c SWEETS (0 .. 99; 10);");
        numbers("sl", 3, 30, 12);
        numbers("sr", 1, 9, 3);
        numbers("sc", 0, 99, 10);
        WeatherMarbles x = Check.yard("b;m");
        CHECK.due("no s at all: the hole", x.rule(0), 12);
        CHECK.due("no s at all: the drain", x.rule(1), 3);
        CHECK.due("no s at all: sweets", x.rule(2), 10);
    }

    private static void boysOfNumbers() {
        CHECK.said(0, "of b: k SKILL (1 .. 9; 5), p PLACE (0 .. 9; 0);");
        numbers("bk", 1, 9, 5);
        numbers("bp", 0, 9, 0);
    }

    private static void marblesOfNumbers() {
        CHECK.said(0, "of m: o OWNER (0 .. 4; 0), w KIND (0 .. 5; 0), s SIZE (1 .. 9; 3);");
        numbers("mo", 0, 4, 0);
        numbers("mw", 0, 5, 0);
        numbers("ms", 1, 9, 3);
    }

    private static void farmsOfNumbers() {
        CHECK.said(0, "of f: p PLACE (0 .. 9; 0), w the KIND that it WANTS (0 .. 5; 0), n SWEETS that it PAYS (0 .. 9; 2).");
        numbers("fp", 0, 9, 0);
        numbers("fw", 0, 5, 0);
        numbers("fn", 0, 9, 2);
    }

    private static void thirdDigits() {
        CHECK.said(0, "a third digit (a fifth one in a LAW) itself, whatever stands ahead of it,");
        for (String item : "sl sr sc bk bp mo mw ms fp fw fn".split(" ")) {
            for (int v = 0; v <= 99; v++) {
                for (int third = 0; third <= 9; third += 3) {
                    fault(item + v / 10 + v % 10 + third + REST, 4);
                }
            }
            fault(item + "0000", 4);
            fault(item + "3 0", 4);
        }
    }

    private static void blanks() {
        CHECK.said(0, "Blanks (32) may stand between all signs of both, not within numbers.");
        fault("  s  l  3  r  1  c  0  ;  b  k  1  p  0  ;  m  o  0  w  0  s  1  ;  f  p  0  w  0  n  0  ", -1);
        fault("b;m" + " ".repeat(237), -1);
        fault(" ".repeat(237) + "b;m", -1);
        fault("sl1 2;b;m", 2);
        fault("sl3 0;b;m", 4);
        fault("sc1 2;b;m", 4);
        fault("b b;m", 2);
        for (int other : new int[] {1, 9, 10, 13, 31, 33, 127, 160, 255}) {
            fault((char) other + "b;m", 0);
            fault("b" + (char) other + ";m", 1);
            fault("b;m" + (char) other, 3);
            fault("bk" + (char) other + "5;m", 2);
            fault("bk5" + (char) other + ";m", 3);
        }
    }

    private static void tooEarly() {
        CHECK.said(0, "FAULT: the first byte at which no such TEXT can go on (the length, if it ends too early,");
        String whole = "s l30 r3 c10;b k5 p0;m o0 w1 s5;f p0 w1 n4";
        int boyAndMarble = whole.indexOf(";m") + 2;
        for (int n = 0; n <= whole.length(); n++) {
            String text = whole.substring(0, n);
            String bare = text.trim();
            boolean ends = n >= boyAndMarble && !bare.endsWith(";") && !bare.matches(".*[owspn]") || bare.endsWith(";m");
            fault(text, ends ? -1 : n);
            fault(text + "x", n);
        }
        CHECK.said(0, "without a BOY or a MARBLE,");
        fault("", 0);
        fault("   ", 3);
        fault("b", 1);
        fault("m", 1);
        fault("s", 1);
        fault("f", 1);
        fault("s;f", 3);
        fault("b;b;b;b;b;s;f", 13);
        fault("m;m;m;m;m;m;s;f", 15);
        fault("b ;s ;f  ", 9);
    }

    private static void owners() {
        CHECK.said(0, "with an OWNER that is not told):");
        for (int boys = 1; boys <= 5; boys++) {
            for (int owner = 0; owner <= 4; owner++) {
                String text = "mo" + owner + ";b".repeat(boys);
                fault(text, owner < boys ? -1 : text.length());
                fault(text + "  ", owner < boys ? -1 : text.length() + 2);
                fault("m;" + text + ";m", owner < boys ? -1 : text.length() + 4);
            }
        }
        fault("b;mo1;x", 6);
        fault("b;mo1;mo2;b", 11);
        fault("b;mo1;mo2;b;b", -1);
        fault("b;m;m;m;m;m;mo1", 15);
    }

    /** Behind this, these bytes can go on and no others. */
    private static void goesOn(String ahead, String signs) {
        for (int sign = 1; sign <= 255; sign++) {
            boolean can = signs.indexOf(sign) >= 0;
            boolean wrong = Check.fault(0, ahead + (char) sign) == ahead.length();
            CHECK.due("<" + ahead + "> goes on with byte " + sign, !wrong, can);
        }
    }

    private static void goesOn() {
        CHECK.said(0, "FAULT: the first byte at which no such TEXT can go on");
        goesOn("", "sbmf ");
        goesOn(" ", "sbmf ");
        goesOn("b;", "sbmf ");
        goesOn("b; ", "sbmf ");
        goesOn("s", "lrc; ");
        goesOn("b", "kp; ");
        goesOn("m", "ows; ");
        goesOn("f", "pwn; ");
        goesOn("b ", "kp; ");
        goesOn("sl", "3456789 ");
        goesOn("sr", "123456789 ");
        goesOn("sc", DIGITS + " ");
        goesOn("bk", "123456789 ");
        goesOn("bp", DIGITS + " ");
        goesOn("mo", "01234 ");
        goesOn("mw", "012345 ");
        goesOn("ms", "123456789 ");
        goesOn("fp", DIGITS + " ");
        goesOn("fw", "012345 ");
        goesOn("fn", DIGITS + " ");
        goesOn("bk ", "123456789 ");
    }

    private static void goesOnBehindNumbers() {
        goesOn("sl3", "rc; 0");
        goesOn("sl4", "rc; ");
        goesOn("sl30", "rc; ");
        goesOn("sl3 ", "rc; ");
        goesOn("sc9", "lr; " + DIGITS);
        goesOn("sc99", "lr; ");
        goesOn("sl3r1", "c; ");
        goesOn("sl3r1c0", "; " + DIGITS);
        goesOn("sl3r1c00", "; ");
        goesOn("bk1", "p; ");
        goesOn("bp0", "k; " + DIGITS);
        goesOn("bp00", "k; ");
        goesOn("bp1", "k; ");
        goesOn("bk5p9", "; ");
        goesOn("mo0", "ws; 01234");
        goesOn("mw0", "os; 012345");
        goesOn("ms1", "ow; ");
        goesOn("mo4w5", "s; ");
        goesOn("mo4w5s9", "; ");
        goesOn("fp0", "wn; " + DIGITS);
        goesOn("fw0", "pn; 012345");
        goesOn("fn9", "pw; ");
        goesOn("fn9w5p9", "; ");
    }

    private static void goesOnWhenFull() {
        CHECK.said(0, "a second s, a sixth b, a seventh m or f,");
        goesOn("s;", "bmf ");
        goesOn("b;b;b;b;", "sbmf ");
        goesOn("b;b;b;b;b;", "smf ");
        goesOn("m;m;m;m;m;", "sbmf ");
        goesOn("m;m;m;m;m;m;", "sbf ");
        goesOn("f;f;f;f;f;", "sbmf ");
        goesOn("f;f;f;f;f;f;", "sbm ");
        goesOn("s;b;b;b;b;b;m;m;m;m;m;m;f;f;f;f;f;f;", " ");
    }

    /** The longest YARD there is, and one that fills the TAPE. */
    private static void fullTape() {
        String text = "sl30r09c99" + ";bk09p09".repeat(5) + ";mo04w05s09".repeat(6) + ";fp09w05n09".repeat(6);
        fault(text, -1);
        fault(text + " ".repeat(240 - text.length()), -1);
        fault(text + " ".repeat(239 - text.length()) + "x", 239);
        fault(text + " ".repeat(238 - text.length()) + ";f", 239);
        // all clauses are there, yet what is wrong is the one too many, not the ; ahead of it
        fault(text + ";", text.length() + 1);
        fault(text + ";b", text.length() + 1);
        fault(text.substring(0, text.length() - 1) + " ".repeat(241 - text.length()), -1);
        fault("b;mo1" + " ".repeat(235), 240);
        WeatherMarbles x = Check.yard(text);
        CHECK.due("the last boy", x.boy(4, 0) * 10 + x.boy(4, 1), 99);
        CHECK.due("the last marble", x.marble(5, 0) * 100 + x.marble(5, 1) * 10 + x.marble(5, 2), 459);
        CHECK.due("the last farm", x.farm(5, 0) * 100 + x.farm(5, 1) * 10 + x.farm(5, 2), 959);
    }
}
