/** Terms, parts 1 and 2: the bounds of LAWS, of what they are worth, and of the cell that a flick comes to. */
public final class EdgeLawTest {
    private static final Check CHECK = new Check();
    private static final String DIGITS = "0123456789";
    private static final String ATOM = DIGITS + "pkschd[ ";
    private static final String UNIT = ATOM + "(!";
    private static final String SIGNS = "+-*/";
    private static final String MILLION = "1000*1000";

    public static void main(String[] args) {
        clauses();
        conditions();
        sums();
        withCondition();
        nested();
        nestedNoMore();
        fifthDigit();
        blanks();
        tooEarly();
        fullTape();
        bounds();
        boundsOfProducts();
        divisions();
        comparisons();
        worth();
        cells();
        usualCells();
        letters();
        letterOfDays();
        CHECK.finish();
    }

    private static void fault(String text, int due) {
        CHECK.due("fault of <" + text + ">", Check.fault(1, text), due);
    }

    /** Behind this, these bytes can go on and no others. */
    private static void goesOn(String ahead, String signs) {
        for (int sign = 1; sign <= 255; sign++) {
            boolean can = signs.indexOf(sign) >= 0;
            boolean wrong = Check.fault(1, ahead + (char) sign) == ahead.length();
            CHECK.due("<" + ahead + "> goes on with byte " + sign, !wrong, can);
        }
    }

    private static void clauses() {
        CHECK.said(0, "LAWS (4 at most) are TEXTS: CLAUSES with ; between, one at least: y, : , perhaps CONDITION ?, then SUM.");
        fault("", 0);
        fault(";", 0);
        fault("y:1", -1);
        fault("y:1;", 4);
        fault("y:1;;y:1", 4);
        fault("y:1;y:1", -1);
        fault("y:1" + ";y:1".repeat(59), -1);
        goesOn("", "y ");
        goesOn("y", ": ");
        goesOn("y:", UNIT);
        goesOn("y:p", SIGNS + "=<>; ");
        goesOn("y:p;", "y ");
        goesOn("y:p=1?", ATOM);
        goesOn("y:p=1?p", SIGNS + "; ");
        goesOn("y:p=1?p;", "y ");
    }

    private static void conditions() {
        CHECK.said(0, "CONDITION: TRUTHS with | between; TRUTH: UNITS with & between; UNIT: ! UNIT, ( CONDITION ), or SUM, one of = < >, SUM.");
        for (String sign : new String[] {"=", "<", ">"}) {
            goesOn("y:p" + sign, ATOM);
            goesOn("y:p" + sign + "k", SIGNS + "|&? ");
        }
        goesOn("y:p=k|", UNIT);
        goesOn("y:p=k&", UNIT);
        goesOn("y:p=k|p", SIGNS + "=<> ");
        goesOn("y:p=k&p", SIGNS + "=<> ");
        goesOn("y:!", UNIT);
        goesOn("y:!p", SIGNS + "=<> ");
        goesOn("y:!p=k", SIGNS + "|&? ");
        goesOn("y:(", UNIT);
        goesOn("y:(p", SIGNS + "=<> ");
        goesOn("y:(p=k", SIGNS + "|&) ");
        goesOn("y:(p=k)", "|&? ");
        goesOn("y:((p=k)", "|&) ");
        goesOn("y:!(p=k)", "|&? ");
        goesOn("y:(p=k)&", UNIT);
    }

    private static void sums() {
        CHECK.said(0, "SUM: TERMS with + or - between; TERM: ATOMS with * or / between;");
        for (char sign : SIGNS.toCharArray()) {
            goesOn("y:p" + sign, ATOM);
            goesOn("y:p" + sign + "k", SIGNS + "=<>; ");
            goesOn("y:[p" + sign, ATOM);
            goesOn("y:[p" + sign + "k", SIGNS + "] ");
        }
        CHECK.said(0, "ATOM: a number (1 to 4 digits), a letter (p k s c h d), [ SUM ].");
        goesOn("y:[", ATOM);
        goesOn("y:[p", SIGNS + "] ");
        goesOn("y:[p]", SIGNS + "=<>; ");
        goesOn("y:[[p]", SIGNS + "] ");
        goesOn("y:p=[k]", SIGNS + "|&? ");
        goesOn("y:1", DIGITS + SIGNS + "=<>; ");
        goesOn("y:123", DIGITS + SIGNS + "=<>; ");
        goesOn("y:1234", SIGNS + "=<>; ");
        goesOn("y:1 ", SIGNS + "=<>; ");
        for (char letter : "pkschd".toCharArray()) {
            goesOn("y:" + letter, SIGNS + "=<>; ");
        }
    }

    private static void withCondition() {
        CHECK.said(0, "(A CLAUSE that goes on with ! or ( behind its : has a CONDITION.)");
        fault("y:(p)", 4);
        fault("y:(p)+1", 4);
        fault("y:(p=1)", 7);
        fault("y:(p=1);", 7);
        fault("y:(p=1)+1", 7);
        fault("y:(p=1)?1", -1);
        fault("y:!p", 4);
        fault("y:!p;", 4);
        fault("y:!p=1;", 6);
        fault("y:!p=1?1", -1);
        fault("y: ! p = 1 ? 1", -1);
        fault("y: ( p ) ", 7);
        fault("y:p=1?!p=1?1", 6);
        fault("y:p=1?(1)", 6);
    }

    /** So opened, with a p in it, and all closed. */
    private static String closed(String opened) {
        StringBuilder text = new StringBuilder("y:" + opened + "p");
        boolean compared = false;
        for (int i = opened.length() - 1; i >= 0; i--) {
            if (opened.charAt(i) == '[') {
                text.append(']');
                continue;
            }
            text.append(compared ? "" : "=1");
            compared = true;
            text.append(opened.charAt(i) == '(' ? ")" : "");
        }
        return text.append(compared ? "" : "=1").append("?1").toString();
    }

    private static void nested() {
        CHECK.said(0, "At most six of ( [ ! within one another.");
        CHECK.said(0, "a seventh of ( [ ! at it.");
        for (int conditions = 0; conditions <= 7; conditions++) {
            for (int bits = 0; bits < 1 << conditions; bits++) {
                StringBuilder opened = new StringBuilder();
                for (int i = 0; i < conditions; i++) {
                    opened.append((bits >> i & 1) == 0 ? '(' : '!');
                }
                for (int all = conditions; all <= 8; all++) {
                    fault(closed(opened.toString()), all <= 6 ? -1 : 8);
                    opened.append('[');
                }
            }
        }
        fault("y:[[[[[[1]]]]]]", -1);
        fault("y:[[[[[[[1]]]]]]]", 8);
        fault("y:1=[[[[[[1]]]]]]?1", -1);
        fault("y:1=[[[[[[[1]]]]]]]?1", 10);
        fault("y:!!!!!1=[1]?1", -1);
        fault("y:!!!!!!1=[1]?1", 10);
        fault("y:((((((1=[1]", 10);
        fault("y:1=1?[[[[[[1]]]]]]", -1);
        fault("y:1=1?[[[[[[[1]]]]]]]", 12);
    }

    /** One that has ended is around nothing more. */
    private static void nestedNoMore() {
        goesOn("y:((((((", DIGITS + "pkschd ");
        goesOn("y:!!!!!!", DIGITS + "pkschd ");
        goesOn("y:[[[[[[", DIGITS + "pkschd ");
        goesOn("y:(((((", UNIT);
        goesOn("y:!!!!!", UNIT);
        goesOn("y:[[[[[", ATOM);
        goesOn("y:((((((p=1&", DIGITS + "pkschd ");
        goesOn("y:((((((p=1)&", UNIT);
        goesOn("y:!!!!!!p=1&", UNIT);
        goesOn("y:!!!!!!p=1|", UNIT);
        goesOn("y:!!!!!!p=", DIGITS + "pkschd ");
        goesOn("y:[[[[[[p]+", ATOM);
        goesOn("y:!!!!!!p=1?", ATOM);
        fault("y:!p=1&!p=1&!p=1&!p=1&!p=1&!p=1&!p=1?1", -1);
        fault("y:[1]+[1]+[1]+[1]+[1]+[1]+[1]", -1);
        fault("y:(1=1)|(1=1)|(1=1)|(1=1)|(1=1)|(1=1)|(1=1)?1", -1);
        fault("y:[[[[[[1]]]]]];y:[[[[[[1]]]]]]", -1);
        fault("y:!!!!!!1=1?[[[[[[1]]]]]];y:!!!!!!!", 34);
    }

    private static void fifthDigit() {
        CHECK.said(0, "a third digit (a fifth one in a LAW) itself, whatever stands ahead of it,");
        for (String four : new String[] {"0000", "0001", "1000", "9999"}) {
            fault("y:" + four, -1);
            fault("y:p=" + four + "?" + four, -1);
            for (int fifth = 0; fifth <= 9; fifth++) {
                fault("y:" + four + fifth, 6);
                fault("y:" + four + fifth + "00", 6);
                fault("y:p=" + four + fifth, 8);
                fault("y:[" + four + fifth + "]", 7);
            }
        }
        for (String fewer : new String[] {"0", "9", "00", "99", "000", "999"}) {
            fault("y:" + fewer, -1);
        }
    }

    private static void blanks() {
        CHECK.said(0, "Blanks (32) may stand between all signs of both, not within numbers.");
        fault("  y  :  !  (  p  =  1  |  k  <  22  )  &  [  s  ]  >  3  ?  c  +  h  -  d  *  4  /  5  ;  y  :  1234  ", -1);
        fault("y:1 2", 4);
        fault("y:12 3", 5);
        fault("y:1234 5", 7);
        fault("y:p=1 2?3", 6);
        for (int other : new int[] {1, 9, 10, 13, 31, 127, 160, 255}) {
            fault((char) other + "y:1", 0);
            fault("y" + (char) other + ":1", 1);
            fault("y:" + (char) other + "1", 2);
            fault("y:1" + (char) other, 3);
        }
    }

    private static void tooEarly() {
        CHECK.said(0, "FAULT: the first byte at which no such TEXT can go on (the length, if it ends too early,");
        String whole = "y : ! ( p = 1 | k < 2 ) & [ s ] > 3 ? c + h";
        for (int n = 0; n < whole.length(); n++) {
            fault(whole.substring(0, n), n >= whole.indexOf('c') + 1 && n <= whole.indexOf('+') ? -1 : n);
            fault(whole.substring(0, n) + "x", n);
        }
        fault(whole, -1);
    }

    private static void fullTape() {
        String ones = "y:p" + "+1".repeat(118) + " ";
        fault(ones, -1);
        fault(ones.substring(0, 239) + "x", 239);
        fault(ones.substring(0, 239) + "+", 240);
        fault("y:1" + " ".repeat(237), -1);
        fault(" ".repeat(240), 240);
        fault(" ".repeat(239) + "y", 240);
        worth(ones, 60);
        worth("y:0-60" + "+1".repeat(117), 57);
        worth("y:p=1?1;".repeat(29) + "y:9     ", 9);
        worth("y:" + "p=1|".repeat(57) + "p=6?11", 11);
        worth("y:" + "p=6&".repeat(57) + "p=6?12", 12);
        worth("y:" + "p<9&".repeat(57) + "p=7?12", 0);
        worth("y:" + "[[[[[[1]]]]]]+".repeat(17), -1);
        worth("y:" + "[[[[[[1]]]]]]+".repeat(16) + "9", 25);
    }

    /** What a boy of skill 7 comes to with a marble of size 8 and power 6; -1: it is no LAW. */
    private static void worth(String law, int due) {
        WeatherMarbles x = Check.yard("bk7;ms8;m");
        Check.feed(x, law);
        int number = x.text(1);
        x.law(number);
        CHECK.due("worth of <" + law + ">", number < 0 ? -1 : x.lands(0, 0, 6), due);
    }

    /** Two SUMS of the same worth. */
    private static void same(String sum, String other) {
        worth("y:" + sum + "=" + other + "?1;y:" + sum + "<" + other + "?2;y:3", 1);
    }

    private static void bounds() {
        CHECK.said(0, "Behind each sign numbers are within -1,000,000 .. 1,000,000;");
        same(MILLION + "-1000*999", "1000");
        same("9999*100+100", MILLION);
        same("9999*100+101", MILLION);
        same("9999*100+99", MILLION + "-1");
        same(MILLION + "+1", MILLION);
        same(MILLION + "+1-1", MILLION + "-1");
        same(MILLION + "+9999-9999", MILLION + "-9999");
        same(MILLION + "-1+1", MILLION);
        same(MILLION + "+" + MILLION, MILLION);
        same(MILLION + "-[0-1]", MILLION);
        same(MILLION + "-[0-1]-1", MILLION + "-1");
        same("0-" + MILLION + "+1", "1-" + MILLION);
        same("0-" + MILLION + "-1", "0-" + MILLION);
        same("0-" + MILLION + "-1+1", "1-" + MILLION);
        same("0-" + MILLION + "-" + MILLION, "0-" + MILLION);
        same("0-" + MILLION + "+[0-1]+1", "1-" + MILLION);
        same("0-9999*100-100", "0-" + MILLION);
        same("0-9999*100-101+1", "1-" + MILLION);
        same("0-9999*100-99", "1-" + MILLION);
    }

    private static void boundsOfProducts() {
        same(MILLION + "*1", MILLION);
        same("1001*999", MILLION + "-1");
        same("1001*1000", MILLION);
        same("1001*1000-1", MILLION + "-1");
        same("9999*9999", MILLION);
        same("9999*9999*9999", MILLION);
        same(MILLION + "*[" + MILLION + "]", MILLION);
        same("9999*9999/9999", "100");
        same("[0-1000]*1000", "0-" + MILLION);
        same("[0-1001]*999", "1-" + MILLION);
        same("[0-1001]*1000", "0-" + MILLION);
        same("1001*[0-1000]+1", "1-" + MILLION);
        same("[0-9999]*9999", "0-" + MILLION);
        same("[0-9999]*[0-9999]", MILLION);
        same("[0-" + MILLION + "]*[0-" + MILLION + "]", MILLION);
        same("[0-" + MILLION + "]*[" + MILLION + "]", "0-" + MILLION);
        same("[0-" + MILLION + "]/[0-1]", MILLION);
        same("[0-9999*9999]/1", "0-" + MILLION);
    }

    private static void divisions() {
        CHECK.said(0, "/ cuts towards 0, by 0 gives 0.");
        int[] lefts = {0, 1, 2, 7, 8, 9999};
        int[] rights = {1, 2, 3, 7, 8, 9, 9999};
        for (int left : lefts) {
            same(left + "/0", "0");
            same("[0-" + left + "]/0", "0");
            same(left + "/[p-6]", "0");
            for (int right : rights) {
                int due = left / right;
                same(left + "/" + right, "" + due);
                same("[0-" + left + "]/" + right, "0-" + due);
                same(left + "/[0-" + right + "]", "0-" + due);
                same("[0-" + left + "]/[0-" + right + "]", "" + due);
            }
        }
        same("7/0+5", "5");
        same("7/0*5", "0");
        same(MILLION + "/0", "0");
    }

    private static void comparisons() {
        CHECK.said(0, "UNIT: ! UNIT, ( CONDITION ), or SUM, one of = < >, SUM.");
        String[] units = {"6=p", "5=p", "7=p", "5<p", "6<p", "7<p", "7>p", "6>p", "5>p"};
        boolean[] so = {true, false, false, true, false, false, true, false, false};
        for (int i = 0; i < units.length; i++) {
            condition(units[i], so[i]);
            condition("!" + units[i], !so[i]);
            condition("!!" + units[i], so[i]);
            condition("(" + units[i] + ")", so[i]);
            condition("!(" + units[i] + ")", !so[i]);
            for (int j = 0; j < units.length; j++) {
                condition(units[i] + "&" + units[j], so[i] && so[j]);
                condition(units[i] + "|" + units[j], so[i] || so[j]);
                condition("!" + units[i] + "&!" + units[j], !so[i] && !so[j]);
                condition("!(" + units[i] + "|" + units[j] + ")", !so[i] && !so[j]);
                condition(units[i] + "|" + units[j] + "&k=1", so[i]);
                condition("(" + units[i] + "|" + units[j] + ")&k=1", false);
                condition("k=1&" + units[i] + "|" + units[j], so[j]);
            }
        }
    }

    private static void condition(String condition, boolean so) {
        worth("y:" + condition + "?1;y:2", so ? 1 : 2);
    }

    private static void worth() {
        CHECK.said(0, "WORTH: the SUM of the first CLAUSE whose CONDITION holds (or has none), 0 without.");
        worth("y:p=5?1", 0);
        worth("y:p=6?1", 1);
        worth("y:p=5?1;y:p=7?2", 0);
        worth("y:p=5?1;y:p=6?2", 2);
        worth("y:p=6?1;y:p=6?2", 1);
        worth("y:1;y:2", 1);
        worth("y:p=5?1;y:2;y:p=6?3", 2);
        worth("y:p=6?1;y:2", 1);
    }

    private static void cells() {
        CHECK.said(0, "comes to the CELL: WORTH by the LAW that holds, held within 0 .. 60");
        worth("y:0", 0);
        worth("y:1", 1);
        worth("y:0-1", 0);
        worth("y:0-" + MILLION, 0);
        worth("y:59", 59);
        worth("y:60", 60);
        worth("y:61", 60);
        worth("y:9999", 60);
        worth("y:" + MILLION, 60);
    }

    private static void usualCells() {
        CHECK.said(0, "(none at first: twice POWER and SKILL by 2, cut, less SIZE by 3, cut);");
        for (int skill = 1; skill <= 9; skill++) {
            for (int size = 1; size <= 9; size++) {
                WeatherMarbles x = Check.yard("bk" + skill + ";ms" + size);
                for (int power = 1; power <= 9; power++) {
                    int cell = 2 * power + (skill - skill % 2) / 2 - (size - size % 3) / 3;
                    CHECK.due(power + " " + skill + " " + size, x.lands(0, 0, power), Math.max(0, cell));
                }
            }
        }
        CHECK.due("2 and 0 less 3: held", Check.yard("bk1;ms9").lands(0, 0, 1), 0);
        CHECK.due("18 and 4 less 0: the most", Check.yard("bk9;ms1").lands(0, 0, 9), 22);
    }

    private static void letters() {
        CHECK.said(0, "letters: p POWER, k SKILL, s SIZE, c whether it is CHIPPED (1, 0),");
        WeatherMarbles x = Check.yard("sl3r1;bk1;bk9;ms1;ms9;mo1;mo1;mo1;mo1");
        for (String letter : new String[] {"p", "k", "s", "20+c"}) {
            Check.holds(x, "y:" + letter);
        }
        x.law(0);
        CHECK.due("the least power", x.lands(0, 0, 1), 1);
        CHECK.due("the most power", x.lands(0, 0, 9), 9);
        x.law(1);
        CHECK.due("the least skill", x.lands(0, 0, 5), 1);
        CHECK.due("the most skill", x.lands(1, 0, 5), 9);
        x.law(2);
        CHECK.due("the least size", x.lands(0, 0, 5), 1);
        CHECK.due("the most size", x.lands(0, 1, 5), 9);
        x.law(3);
        CHECK.due("whole", x.lands(0, 0, 5), 20);
        x.chip(0);
        CHECK.due("chipped", x.lands(0, 0, 5), 21);
        CHECK.due("another", x.lands(0, 1, 5), 20);
        CHECK.said(0, "h how many MARBLES that BOY has (DRAINED ones not),");
        WeatherMarbles y = Check.yard("bk9;bk1;m;m;m;m;m;mo1");
        Check.holds(y, "y:k>5?60;y:0");
        Check.holds(y, "y:h");
        for (int has = 5; has >= 1; has--) {
            CHECK.due("he has " + has, y.lands(0, 5, 1), has);
            CHECK.due("the other has", y.lands(1, 0, 1), 1);
            y.swallow(has - 1);
            CHECK.due("a swallowed one is his", y.lands(0, 5, 1), has);
            y.undo();
            y.law(0);
            y.play(has - 1, 1, 5, 1);
            y.law(1);
            CHECK.due("drained", y.marble(has - 1, 0), -1);
        }
        CHECK.due("he has none", y.lands(0, 5, 1), 0);
        CHECK.due("all six", sixOf(), 6);
    }

    private static int sixOf() {
        WeatherMarbles x = Check.yard("b;m;m;m;m;m;m");
        Check.holds(x, "y:h");
        return x.lands(0, 0, 1);
    }

    private static void letterOfDays() {
        CHECK.said(0, "d the DAY.");
        WeatherMarbles x = Check.yard("b;m");
        Check.holds(x, "y:d");
        CHECK.due("day 0", x.lands(0, 0, 1), 0);
        x.days(1);
        CHECK.due("day 1", x.lands(0, 0, 1), 1);
        x.days(59);
        CHECK.due("day 60", x.lands(0, 0, 1), 60);
        x.days(1);
        CHECK.due("day 61, held", x.lands(0, 0, 1), 60);
        Check.holds(x, "y:d=9999?1;y:d=9998?2;y:3");
        for (int i = 0; i < 165; i++) {
            x.days(60);
        }
        CHECK.due("day 9961", x.lands(0, 0, 1), 3);
        x.days(37);
        CHECK.due("day 9998", x.lands(0, 0, 1), 2);
        x.days(1);
        CHECK.due("day 9999", x.lands(0, 0, 1), 1);
    }
}
