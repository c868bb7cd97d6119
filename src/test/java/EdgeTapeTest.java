import java.util.Arrays;

/** Promises 1 to 5 and 10 sentence by sentence: the last input that is taken, the first that is refused. */
public final class EdgeTapeTest {
    private static final Check CHECK = new Check();

    public static void main(String[] args) {
        noYard();
        feedOrder();
        feedLeftOut();
        feedTooMuch();
        ends();
        endsRefused();
        faults();
        textOfYard();
        textOfAnotherYard();
        textOfLaws();
        textRefused();
        lawThatHolds();
        CHECK.finish();
    }

    private static void noYard() {
        CHECK.said(1, "No YARD.");
        WeatherMarbles x = new WeatherMarbles();
        for (int i = -1; i < 3; i++) {
            CHECK.due("rule " + i, x.rule(i), -1);
            CHECK.due("boy " + i, Check.boyThrows(x, i, 0), true);
            CHECK.due("marble " + i, x.marble(i, 0), -1000000);
            CHECK.due("farm " + i, x.farm(i, 0), -1);
            CHECK.due("hands " + i, x.hands(i), -1);
        }
        for (int what = 0; what <= 12; what++) {
            CHECK.due("count " + what, x.count(what), what == 5 ? -1 : 0);
        }
        for (int what = 0; what < 5; what++) {
            CHECK.due("status " + what, x.status(what), 0);
        }
        CHECK.due("of another object", Snapshot.of(x).equals(Snapshot.of(new WeatherMarbles())), true);
        Check.lay(new WeatherMarbles(), "b;m");
        CHECK.due("another object's yard is not its own", x.count(0), 0);
    }

    private static int feed(WeatherMarbles x, int[] n) {
        return x.feed(n[0], n[1], n[2], n[3], n[4]);
    }

    /** Twenty blanks, and this sign as the i-th byte. */
    private static int[] oneSign(int i, char sign) {
        int[] n = new int[5];
        Arrays.fill(n, 0x20202020);
        n[i / 4] ^= (' ' ^ sign) << 24 - 8 * (i % 4);
        return n;
    }

    private static void feedOrder() {
        CHECK.said(2, "Twenty bytes more come to the TAPE (of each number the highest first;");
        for (int i = 0; i < 20; i++) {
            WeatherMarbles x = new WeatherMarbles();
            CHECK.due("twenty", feed(x, oneSign(i, 'x')), 20);
            CHECK.due("byte " + i, x.fault(0), i);
            CHECK.due("twenty more", feed(x, oneSign(i, 'x')), 40);
            CHECK.due("how many the tape has", x.count(4), 40);
            WeatherMarbles y = new WeatherMarbles();
            feed(y, oneSign(i, ' '));
            feed(y, oneSign(i, (char) 255));
            CHECK.due("byte " + (20 + i) + ", the highest byte there is", y.fault(0), 20 + i);
        }
    }

    private static void feedLeftOut() {
        CHECK.said(2, "bytes of 0 are left out): how many it has.");
        for (int i = 0; i < 20; i++) {
            WeatherMarbles x = new WeatherMarbles();
            CHECK.due("all but byte " + i, feed(x, oneSign(i, (char) 0)), 19);
            int[] n = new int[5];
            n[i / 4] = 'x' << 24 - 8 * (i % 4);
            CHECK.due("byte " + i + " alone", feed(x, n), 20);
            CHECK.due("it stands behind those", x.fault(0), 19);
            CHECK.due("none", feed(x, new int[5]), 20);
        }
        CHECK.due("none at first", new WeatherMarbles().feed(0, 0, 0, 0, 0), 0);
    }

    /** So many bytes, the others 0. */
    private static int[] bytes(int many, boolean last) {
        int[] n = new int[5];
        for (int i = 0; i < many; i++) {
            int at = last ? 19 - i : i;
            n[at / 4] |= ' ' << 24 - 8 * (at % 4);
        }
        return n;
    }

    private static void feedTooMuch() {
        CHECK.said(2, "NONE: more than 240.");
        for (int have = 220; have <= 240; have++) {
            for (int more = 0; more <= 20; more++) {
                WeatherMarbles x = new WeatherMarbles();
                CHECK.due("have", Check.feed(x, "x" + " ".repeat(have - 1)), have);
                boolean fits = have + more <= 240;
                String what = have + " and " + more;
                CHECK.due(what, feed(x, bytes(more, more % 2 == 0)), fits ? have + more : -1);
                CHECK.due(what + ": the tape", x.count(4), fits ? have + more : have);
                CHECK.due(what + ": no status", x.status(0) + x.status(1), 0);
            }
        }
        WeatherMarbles full = new WeatherMarbles();
        Check.feed(full, " ".repeat(240));
        for (int i = 0; i < 20; i++) {
            int[] n = new int[5];
            n[i / 4] = 1 << 24 - 8 * (i % 4);
            CHECK.due("one more, byte " + i, feed(full, n), -1);
        }
        CHECK.due("nothing of it came", full.fault(0), 240);
        full.end(239);
        CHECK.due("one is taken again", full.feed(0, 0, 0, 0, 'x'), 240);
        CHECK.due("as the last byte", full.fault(0), 239);
    }

    private static void ends() {
        CHECK.said(3, "The TAPE has its first n bytes alone.");
        for (int n = 0; n <= 5; n++) {
            WeatherMarbles x = new WeatherMarbles();
            Check.feed(x, "b;m;q");
            CHECK.due("the first " + n, x.end(n), true);
            CHECK.due("how many", x.count(4), n);
            CHECK.due("fault", x.fault(0), n == 3 ? -1 : Math.min(n, 4));
            CHECK.due("fed behind them", Check.feed(x, "x"), n + 1);
        }
        WeatherMarbles full = new WeatherMarbles();
        Check.feed(full, " ".repeat(240));
        CHECK.due("all 240", full.end(240), true);
        CHECK.due("how many", full.count(4), 240);
        CHECK.due("none of 240", full.end(0), true);
        CHECK.due("how many", full.count(4), 0);
        CHECK.due("none of none", full.end(0), true);
    }

    private static void endsRefused() {
        CHECK.said(3, "False: n.");
        for (int have = 0; have <= 240; have += 60) {
            WeatherMarbles x = new WeatherMarbles();
            Check.feed(x, "z".repeat(have));
            for (int n : new int[] {-1, have + 1, 241, Integer.MIN_VALUE, Integer.MAX_VALUE}) {
                CHECK.due(n + " of " + have, x.end(n), false);
                CHECK.due("how many", x.count(4), have);
            }
        }
        WeatherMarbles cut = new WeatherMarbles();
        Check.feed(cut, "b;m");
        cut.end(2);
        CHECK.due("what is gone is gone", cut.end(3), false);
    }

    private static void faults() {
        WeatherMarbles x = new WeatherMarbles();
        Check.feed(x, "b;m");
        CHECK.said(4, "The FAULT of the TAPE as a YARD (0), a LAW (1).");
        CHECK.due("a yard as a law", x.fault(1), 0);
        x.end(1);
        CHECK.due("half a yard", x.fault(0), 1);
        Check.feed(x, ";m");
        CHECK.said(4, "NONE: none.");
        CHECK.due("a yard", x.fault(0), -1);
        CHECK.due("asked again", x.fault(0), -1);
        CHECK.due("the tape stays", x.count(4), 3);
        CHECK.due("no yard by it", x.count(0), 0);
        CHECK.said(4, "-2: no such sort.");
        for (int sort : new int[] {-1, -2, 2, 3, Integer.MIN_VALUE, Integer.MAX_VALUE}) {
            CHECK.due("sort " + sort, x.fault(sort), -2);
            CHECK.due("of an empty tape", new WeatherMarbles().fault(sort), -2);
        }
    }

    private static void textOfYard() {
        CHECK.said(5, "The TAPE (empty then) is the YARD (DAY 0;");
        for (int marbles = 1; marbles <= 6; marbles++) {
            WeatherMarbles x = new WeatherMarbles();
            Check.feed(x, "b" + ";m".repeat(marbles));
            CHECK.said(5, "how many MARBLES;");
            CHECK.due("marbles", x.text(0), marbles);
            CHECK.due("the tape", x.count(4), 0);
            CHECK.due("the day", x.count(6), 0);
            CHECK.due("an empty tape is no yard", x.text(0), -1);
            CHECK.due("the yard stays", x.count(0), marbles);
        }
    }

    /** As full as can be: four laws, ten seen, a long log, 40 acts, an image, each status. */
    private static WeatherMarbles full() {
        WeatherMarbles x = Check.yard("sl5r3c99;b;bp1;bp2;bp3;bp4;mw1;mo1;mo2;mo3;mo4;mo0;f;f;f;f;f;fw1");
        for (int i = 0; i < 4; i++) {
            Check.holds(x, "y:p+" + i);
        }
        x.law(2);
        x.spills(9);
        for (int i = 0; i < 10; i++) {
            x.seen(i, 0, true);
        }
        x.days(60);
        x.image();
        x.days(60);
        x.play(0, 9, 1, 1);
        x.chip(5);
        x.swallow(5);
        x.play(9, 1, 1, 1);
        x.days(0);
        x.chip(0);
        return x;
    }

    private static void textOfAnotherYard() {
        CHECK.said(5, "all that was of another one, SEEN, too, is gone but LAWS, which holds, SPILLS, STATUS):");
        for (String yard : new String[] {"b;m", "s;b;b;b;b;b;m;m;m;m;m;m;f;f;f;f;f;f", "bp9k9;ms9w5;fp9w5"}) {
            WeatherMarbles x = full();
            String status = Snapshot.status(x);
            Check.lay(x, yard);
            WeatherMarbles fresh = Check.yard(yard);
            for (int i = 0; i < 4; i++) {
                Check.holds(fresh, "y:p+" + i);
            }
            fresh.law(2);
            fresh.spills(9);
            CHECK.due("as a fresh one: " + yard, Snapshot.of(x).equals(Snapshot.of(fresh)), true);
            CHECK.due("status stays", Snapshot.status(x).equals(status), true);
            CHECK.due("status was told", status.equals("1 1 1 0 0 "), true);
            CHECK.due("laws", x.count(3), 4);
            CHECK.due("which holds", x.count(5), 2);
            CHECK.due("spills", x.count(9), 9);
            CHECK.due("seen", x.count(10), 0);
            CHECK.due("the log", x.log(0, 0), -1);
            CHECK.due("no act to undo", x.undo(), -1);
            CHECK.due("no image of it", x.back(), -1);
            CHECK.due("seen anew", x.seen(0, 0, true), 1);
        }
    }

    private static void textOfLaws() {
        CHECK.said(5, "a LAW: its number.");
        WeatherMarbles x = new WeatherMarbles();
        for (int i = 0; i < 4; i++) {
            Check.feed(x, "y:" + (10 + i));
            CHECK.due("law", x.text(1), i);
            CHECK.due("the tape", x.count(4), 0);
            CHECK.due("laws", x.count(3), i + 1);
        }
        Check.feed(x, "y:14");
        CHECK.said(0, "LAWS (4 at most) are TEXTS: CLAUSES with ; between, one at least: y, : , perhaps CONDITION ?, then SUM.");
        CHECK.due("a fifth", x.text(1), -1);
        CHECK.due("laws", x.count(3), 4);
        CHECK.due("the tape stays", x.count(4), 4);
        Check.lay0(x);
        Check.feed(x, "y:14");
        CHECK.due("nor by another yard", x.text(1), -1);
        for (int i = 0; i < 4; i++) {
            CHECK.due("law " + i, x.law(i), true);
            CHECK.due("it is as it was told", x.lands(0, 0, 1), 10 + i);
        }
    }

    private static void textRefused() {
        CHECK.said(5, "NONE: a FAULT, no such sort, there are four LAWS.");
        WeatherMarbles x = full();
        Check.feed(x, "b;mo1");
        String before = Snapshot.of(x);
        CHECK.due("a fault at the end", x.text(0), -1);
        CHECK.due("a fault at the start, and four laws", x.text(1), -1);
        for (int sort : new int[] {-1, -2, 2, 3, Integer.MIN_VALUE, Integer.MAX_VALUE}) {
            CHECK.due("sort " + sort, x.text(sort), -1);
        }
        CHECK.due("all is as it was", Snapshot.of(x).equals(before), true);
        CHECK.due("nor counted", Snapshot.status(x).equals("1 1 1 0 0 "), true);
        CHECK.due("it can be undone still", x.undo(), 39);
        CHECK.due("the image is there still", x.back(), 60);
        x.end(3);
        CHECK.due("without the fault", x.text(0), 1);
        Check.feed(x, "y:p");
        CHECK.due("four laws alone", x.text(1), -1);
        WeatherMarbles y = new WeatherMarbles();
        Check.feed(y, "y:p=1");
        CHECK.due("a law with a fault", y.text(1), -1);
        CHECK.due("none is there", y.count(3), 0);
        for (int sort : new int[] {-1, 2}) {
            y.end(0);
            Check.feed(y, "y:p");
            CHECK.due("a fine law, sort " + sort, y.text(sort), -1);
            y.end(0);
            Check.feed(y, "b;m");
            CHECK.due("a fine yard, sort " + sort, y.text(sort), -1);
        }
        CHECK.due("neither", y.count(0) + y.count(3), 0);
    }

    private static void lawThatHolds() {
        CHECK.said(10, "The LAW that holds (NONE: none).");
        WeatherMarbles x = new WeatherMarbles();
        CHECK.due("none at first", x.count(5), -1);
        CHECK.due("none again", x.law(-1), true);
        for (int laws = 0; laws <= 4; laws++) {
            for (int law = 0; law < laws; law++) {
                CHECK.due(law + " of " + laws, x.law(law), true);
                CHECK.due("it holds", x.count(5), law);
                CHECK.due("again", x.law(law), true);
            }
            CHECK.said(10, "False: no such one.");
            int holds = x.count(5);
            for (int law : new int[] {laws, 4, 5, -2, Integer.MIN_VALUE, Integer.MAX_VALUE}) {
                CHECK.due(law + " of " + laws, x.law(law), false);
                CHECK.due("what held holds", x.count(5), holds);
            }
            Check.feed(x, "y:" + laws);
            x.text(1);
        }
        CHECK.due("none", x.law(-1), true);
        CHECK.due("none holds", x.count(5), -1);
        CHECK.due("no status", Snapshot.status(x).equals("0 0 0 0 0 "), true);
    }
}
