/** Terms, parts 2 and 4, and promises 17, 18, 20, 21, 42 and 43: YEARS, SPILLS, undone acts, the LOG, images. */
public final class EdgePastTest {
    private static final Check CHECK = new Check();
    // By the law y:p a marble comes to the cell of its power; the hole is 5, the drain 8.
    private static final String YARD = "sl5r3c50;b;bp1;bp1;mo0s4;mo1w1s3;mo1w2s2;mo2s9;fp1n3;fp0n4";

    public static void main(String[] args) {
        actsUndone();
        actsUndoneAlone();
        fortyActs();
        fortyDays();
        undoRefused();
        logKept();
        logContent();
        logRefused();
        spills();
        spillsDraw();
        yearsBounds();
        yearsGames();
        yearsChips();
        yearsDraws();
        yearsLastDay();
        yearsActs();
        images();
        imageInstead();
        imageOfLog();
        imageAhead();
        backEndsUndo();
        backKeeps();
        CHECK.finish();
    }

    private static WeatherMarbles yard() {
        WeatherMarbles x = Check.yard(YARD);
        Check.holds(x, "y:p");
        return x;
    }

    private static void same(String what, String got, String due) {
        CHECK.due(what + " is the same", got.equals(due), true);
    }

    private static void act(WeatherMarbles x, int which) {
        switch (which) {
            case 0: CHECK.due("play", x.play(0, 5, 1, 1), 1); break;
            case 1: CHECK.due("play, gone", x.play(0, 8, 3, 9), 0); break;
            case 2: CHECK.due("swap", x.swap(0, 2), 1); break;
            case 3: CHECK.due("give", x.give(3, 0), 41); break;
            case 4: CHECK.due("chip", x.chip(0), 1); break;
            case 5: CHECK.due("swallow", x.swallow(3), 1); break;
            case 6: CHECK.due("days", x.days(1) >= 50, true); break;
            default: CHECK.due("years", x.years(1, 5), 1);
        }
    }

    private static void actsUndone() {
        CHECK.said(0, "All these (each DAY) are ACTS: the latest 40 can be UNDONE one by one (LOG, too).");
        CHECK.said(20, "The latest ACT is UNDONE: how many still can be.");
        for (int which = 0; which < 8; which++) {
            WeatherMarbles x = yard();
            String first = Snapshot.of(x);
            act(x, which);
            CHECK.due("act " + which + " is one", x.count(12), 1);
            CHECK.due("act " + which + " changes", Snapshot.of(x).equals(first), false);
            CHECK.due("undo", x.undo(), 0);
            same("undone " + which, Snapshot.of(x), first);
        }
    }

    private static void actsUndoneAlone() {
        CHECK.said(0, "UNDONE one by one");
        for (int m = 0; m < 6; m++) {
            WeatherMarbles x = Check.yard("sc50;b;b;b;b;b;m;mo1;mo2;mo3;mo4;m;f;f;f;f;f;f");
            String first = Snapshot.of(x);
            x.chip(m);
            String chipped = Snapshot.of(x);
            x.swallow(m);
            String swallowed = Snapshot.of(x);
            x.give((m + 1) % 6, (m + 3) % 5);
            String given = Snapshot.of(x);
            x.days(1);
            CHECK.due("undo", x.undo(), 3);
            same("given", Snapshot.of(x), given);
            CHECK.due("undo", x.undo(), 2);
            same("swallowed", Snapshot.of(x), swallowed);
            CHECK.due("undo", x.undo(), 1);
            same("chipped", Snapshot.of(x), chipped);
            CHECK.due("undo", x.undo(), 0);
            same("as at first", Snapshot.of(x), first);
        }
    }

    private static void fortyActs() {
        CHECK.said(0, "the latest 40 can be UNDONE one by one (LOG, too).");
        for (int acts : new int[] {0, 1, 39, 40, 41, 42, 79, 80, 81, 120}) {
            WeatherMarbles x = Check.yard("b;b;mo0;mo1");
            for (int i = 0; i < acts; i++) {
                x.swap(0, 1);
            }
            int can = Math.min(acts, 40);
            CHECK.due("of " + acts, x.count(12), can);
            for (int left = can - 1; left >= 0; left--) {
                CHECK.due("undo of " + acts, x.undo(), left);
                CHECK.due("whose", x.marble(0, 0), (acts - can + left) % 2);
                CHECK.due("still", x.count(12), left);
            }
            CHECK.said(20, "NONE: none.");
            CHECK.due("no more of " + acts, x.undo(), -1);
            CHECK.due("whose", x.marble(0, 0), (acts - can) % 2);
            CHECK.due("one act anew", x.swap(0, 1) >= 0 ? x.count(12) : -1, 1);
        }
    }

    private static void fortyDays() {
        CHECK.said(0, "(each DAY) are ACTS: the latest 40 can be UNDONE one by one (LOG, too).");
        for (int days : new int[] {1, 39, 40, 41, 59, 60, 61, 99, 100, 101, 140, 141, 300}) {
            WeatherMarbles x = Check.yard("sc0;b;m;fn1");
            for (int gone = 0; gone < days; gone += 60) {
                x.days(Math.min(60, days - gone));
            }
            for (int undone = 1; undone <= Math.min(days, 40); undone++) {
                CHECK.due("undo of " + days, x.undo(), Math.min(days, 40) - undone);
                int day = days - undone;
                CHECK.due("the day", x.count(6), day);
                CHECK.due("sweets", x.rule(2), day);
                CHECK.due("the log", x.count(11), Math.min(day, 60));
                CHECK.due("its latest", x.log(0, 0), day > 0 ? day : -1);
                int last = Math.min(day, 60) - 1;
                CHECK.due("its last", x.log(last, 0), last >= 0 ? day - last : -1);
                CHECK.due("behind it", x.log(last + 1, 0), -1);
            }
            CHECK.due("no more", x.undo(), -1);
        }
    }

    private static void undoRefused() {
        CHECK.said(20, "NONE: none.");
        CHECK.due("no yard", new WeatherMarbles().undo(), -1);
        WeatherMarbles x = yard();
        String first = Snapshot.of(x);
        CHECK.due("no act", x.undo(), -1);
        x.play(9, 1, 1, 1);
        x.swap(1, 2);
        x.give(3, 2);
        x.chip(-1);
        x.swallow(4);
        x.days(61);
        x.years(0, 1);
        CHECK.due("refused ones are none", x.undo(), -1);
        x.image();
        x.law(0);
        x.spills(0);
        CHECK.due("nor are these", x.undo(), -1);
        same("nothing", Snapshot.of(x), first);
        x.chip(0);
        CHECK.due("one", x.undo(), 0);
        CHECK.due("it can't be done again", x.undo(), -1);
    }

    private static void logKept() {
        CHECK.said(0, "LOG: SWEETS then, which FARMS were CONTENT (bits; the latest 60).");
        CHECK.said(21, "LOG, the latest (i 0), the one ahead of it (1) ..: 0 SWEETS, 1 CONTENT.");
        for (int days : new int[] {0, 1, 2, 58, 59, 60, 61, 62, 127, 128, 129, 200}) {
            WeatherMarbles x = Check.yard("sc0;b;m;fn1");
            for (int gone = 0; gone < days; gone += 60) {
                x.days(Math.min(60, days - gone));
            }
            int kept = Math.min(days, 60);
            CHECK.due("how long", x.count(11), kept);
            for (int i = 0; i < kept; i++) {
                CHECK.due(i + " of " + days, x.log(i, 0), days - i);
                CHECK.due(i + " of " + days, x.log(i, 1), 1);
            }
            CHECK.said(21, "NONE: no such ones.");
            for (int i : new int[] {Integer.MIN_VALUE, -2, -1, kept, 60, 61, Integer.MAX_VALUE}) {
                CHECK.due(i + " of " + days, x.log(i, 0), -1);
                CHECK.due(i + " of " + days, x.log(i, 1), -1);
            }
        }
    }

    private static void logContent() {
        CHECK.said(0, "which FARMS were CONTENT (bits;");
        for (int bits = 0; bits < 64; bits++) {
            StringBuilder text = new StringBuilder("sc0;b;mw5");
            int pays = 0;
            for (int f = 0; f < 6; f++) {
                boolean content = (bits >> f & 1) != 0;
                text.append(content ? ";fw5n" : ";fw4n").append(f + 1);
                pays += content ? f + 1 : 0;
            }
            WeatherMarbles x = Check.yard(text.toString());
            CHECK.due("sweets", x.days(1), pays);
            CHECK.due("content", x.log(0, 1), bits);
            CHECK.due("sweets then", x.log(0, 0), pays);
            CHECK.due("content now", x.count(7), bits);
            x.chip(0);
            CHECK.due("chipped: size 1", x.days(1), 2 * pays);
            CHECK.due("sweets of the day ahead", x.log(1, 0), pays);
        }
        WeatherMarbles none = Check.yard("sc7;b;m");
        none.days(1);
        CHECK.due("without farms: sweets", none.log(0, 0), 7);
        CHECK.due("without farms: none", none.log(0, 1), 0);
        WeatherMarbles then = Check.yard("b;b;mo0s4;f");
        then.days(1);
        then.give(0, 1);
        CHECK.due("sweets then, not now", then.log(0, 0), 12);
        CHECK.due("sweets now", then.rule(2), 8);
    }

    private static void logRefused() {
        CHECK.said(21, "NONE: no such ones.");
        CHECK.due("no yard", new WeatherMarbles().log(0, 0), -1);
        WeatherMarbles x = Check.yard("b;m;f");
        CHECK.due("no day yet", x.log(0, 0), -1);
        x.days(1);
        for (int what : new int[] {Integer.MIN_VALUE, -1, 2, 3, Integer.MAX_VALUE}) {
            CHECK.due("what " + what, x.log(0, what), -1);
        }
        CHECK.due("0", x.log(0, 0), 12);
        CHECK.due("1", x.log(0, 1), 1);
        x.chip(0);
        x.swallow(0);
        CHECK.due("other acts are not in it", x.count(11), 1);
    }

    private static void spills() {
        CHECK.said(17, "SPILLS.");
        CHECK.said(17, "False: out of bounds, it is so.");
        WeatherMarbles x = new WeatherMarbles();
        CHECK.due("0 at first", x.count(9), 0);
        CHECK.due("it is so", x.spills(0), false);
        for (int v = 9; v >= 0; v--) {
            CHECK.due("spills " + v, x.spills(v), true);
            CHECK.due("it is", x.count(9), v);
            for (int far : new int[] {v, -1, 10, -2, 11, Integer.MIN_VALUE, Integer.MAX_VALUE}) {
                CHECK.due("then " + far, x.spills(far), false);
                CHECK.due("it is", x.count(9), v);
            }
        }
    }

    private static int fifthDraw(long seed) {
        Dice dice = new Dice(seed);
        for (int i = 0; i < 4; i++) {
            dice.below(9);
        }
        return dice.below(10);
    }

    private static void spillsDraw() {
        CHECK.said(0, "then a draw of 10 below SPILLS (0 .. 9; 0 at first): a draw of how many MARBLES there are:");
        for (int drawn = 0; drawn <= 9; drawn++) {
            long seed = 0;
            while (fifthDraw(seed) != drawn) {
                seed++;
            }
            for (int spills = 0; spills <= 9; spills++) {
                WeatherMarbles x = Check.yard("b;m");
                x.spills(spills);
                CHECK.due("years", x.years(1, seed), 1);
                CHECK.due(drawn + " below " + spills, x.marble(0, 3), drawn < spills ? 1 : 0);
            }
        }
    }

    private static void yearsBounds() {
        CHECK.said(0, "YEARS by a seed: n (1 .. 60) DAYS, ahead of each:");
        CHECK.said(18, "YEARS: the DAY.");
        for (int n = 1; n <= 60; n++) {
            WeatherMarbles x = yard();
            CHECK.due(n + " days", x.years(n, 7), n);
            CHECK.due("the day", x.count(6), n);
            CHECK.due("on from there", x.years(1, 7), n + 1);
        }
        CHECK.said(18, "NONE: no YARD, out of bounds, beyond 9,999.");
        WeatherMarbles x = yard();
        x.years(3, 5);
        String before = Snapshot.of(x);
        for (int n : new int[] {Integer.MIN_VALUE, -1, 0, 61, 62, Integer.MAX_VALUE}) {
            CHECK.due(n + " days", x.years(n, 5), -1);
            CHECK.due("no yard, " + n + " days", new WeatherMarbles().years(n, 5), -1);
        }
        CHECK.due("no yard", new WeatherMarbles().years(1, 5), -1);
        CHECK.due("no yard", new WeatherMarbles().years(60, 5), -1);
        same("nothing changed", Snapshot.of(x), before);
        CHECK.said(0, "No STATUS.");
        same("status", Snapshot.status(x), "0 0 0 0 0 ");
    }

    private static void yearsGames() {
        CHECK.said(0, "a draw of how many MARBLES there are, a draw of how many, a draw of 9 and 1: POWER, a draw of 9 and 1: POWER:");
        CHECK.said(0, "a GAME of their OWNERS with these, if it can be (OWNERS unlike);");
        String[] yards = {"b;m", "b;m;m;m", "sl5r3;b;b;m;mo1", "sl5r9;b;b;b;b;b;m;mo1;mo2;mo3;mo4;mo0",
            "sl9r1;b;b;m;m;m;mo1;mo1"};
        for (String text : yards) {
            for (int swallowed = -1; swallowed < 2; swallowed++) {
                for (long seed = 0; seed < 40; seed++) {
                    WeatherMarbles x = Check.yard(text);
                    WeatherMarbles byHand = Check.yard(text);
                    Check.holds(x, "y:p");
                    Check.holds(byHand, "y:p");
                    x.swallow(swallowed);
                    byHand.swallow(swallowed);
                    x.years(25, seed);
                    new Dice(seed).years(byHand, 25, 0);
                    CHECK.due("drained by " + seed, x.count(8), byHand.count(8));
                    for (int m = 0; m < x.count(0); m++) {
                        CHECK.due(text + ": whose is " + m + " by " + seed, x.marble(m, 0), byHand.marble(m, 0));
                    }
                    CHECK.due("the refused ones do not count", x.status(2), 0);
                }
            }
        }
    }

    private static void yearsChips() {
        CHECK.said(0, "it is CHIPPED, if it is neither CHIPPED nor DRAINED.");
        for (int spills = 0; spills <= 9; spills++) {
            for (long seed = 100; seed < 140; seed++) {
                WeatherMarbles x = yard();
                WeatherMarbles byHand = yard();
                x.swallow(1);
                byHand.swallow(1);
                x.spills(spills);
                x.years(30, seed);
                new Dice(seed).years(byHand, 30, spills);
                int chipped = 0;
                for (int m = 0; m < 4; m++) {
                    CHECK.due("chipped " + m + " by " + seed, x.marble(m, 3), byHand.marble(m, 3));
                    CHECK.due("whose is " + m + " by " + seed, x.marble(m, 0), byHand.marble(m, 0));
                    chipped += x.marble(m, 3);
                }
                CHECK.due("sweets by " + seed, x.rule(2), byHand.rule(2));
                CHECK.due("none without spills", chipped > 0 && spills == 0, false);
            }
        }
    }

    private static void yearsDraws() {
        CHECK.said(0, "x, at first the seed, becomes x times 6364136223846793005 and 1442695040888963407 (64 bits, going round);");
        CHECK.said(0, "a draw of j: (x shifted right by 33, without sign) modulo j.");
        long[] seeds = {0, 1, -1, 2, -2, Long.MIN_VALUE, Long.MAX_VALUE, Long.MIN_VALUE + 1, Long.MAX_VALUE - 1,
            1L << 33, 1L << 31, -(1L << 33), 0xffffffffL, 6364136223846793005L, -1442695040888963407L};
        for (long seed : seeds) {
            for (int n : new int[] {1, 2, 60}) {
                WeatherMarbles x = Check.yard("sl9r9c0;b;bp1;bp2;bp3;bp4;m;mo1;mo2;mo3;mo4;mo0s9;f;fp1;fp2;fp3;fp4");
                WeatherMarbles byHand = Check.yard("sl9r9c0;b;bp1;bp2;bp3;bp4;m;mo1;mo2;mo3;mo4;mo0s9;f;fp1;fp2;fp3;fp4");
                x.spills(9);
                x.years(n, seed);
                new Dice(seed).years(byHand, n, 9);
                for (int i = 0; i < n; i++) {
                    CHECK.due("sweets " + i + " by " + seed, x.log(i, 0), byHand.log(i, 0));
                    CHECK.due("content " + i + " by " + seed, x.log(i, 1), byHand.log(i, 1));
                }
                for (int m = 0; m < 6; m++) {
                    CHECK.due("whose is " + m + " by " + seed, x.marble(m, 0), byHand.marble(m, 0));
                    CHECK.due("chipped " + m + " by " + seed, x.marble(m, 3), byHand.marble(m, 3));
                }
            }
        }
    }

    private static void yearsLastDay() {
        CHECK.said(18, "beyond 9,999.");
        WeatherMarbles x = Check.yard("b;m;fn1");
        for (int i = 0; i < 166; i++) {
            x.years(60, i);
        }
        CHECK.due("the day", x.count(6), 9960);
        CHECK.due("to day 10,000", x.years(40, 1), -1);
        CHECK.due("to day 10,020", x.years(60, 1), -1);
        CHECK.due("the day", x.count(6), 9960);
        CHECK.due("to day 9,999", x.years(39, 1), 9999);
        CHECK.due("one more", x.years(1, 1), -1);
        CHECK.due("the day", x.count(6), 9999);
        x.undo();
        CHECK.due("two", x.years(2, 1), -1);
        CHECK.due("one", x.years(1, 1), 9999);
        same("no status", Snapshot.status(x), "0 0 0 0 0 ");
    }

    private static void yearsActs() {
        CHECK.said(0, "Each DAY with what is ahead of it is one ACT.");
        for (long seed = 0; seed < 30; seed++) {
            WeatherMarbles x = yard();
            x.spills(9);
            String[] then = new String[6];
            for (int n = 0; n < 6; n++) {
                WeatherMarbles y = yard();
                y.spills(9);
                y.years(n, seed);
                then[n] = withoutActs(y);
            }
            x.years(6, seed);
            CHECK.due("acts", x.count(12), 6);
            for (int left = 5; left >= 0; left--) {
                CHECK.due("undo", x.undo(), left);
                same(left + " days by " + seed, withoutActs(x), then[left]);
            }
        }
    }

    /** A snapshot without its first row, which counts the acts that can be undone. */
    private static String withoutActs(WeatherMarbles x) {
        String text = Snapshot.of(x);
        return x.count(6) + " " + x.count(11) + " " + x.log(0, 0) + text.substring(text.indexOf('\n'));
    }

    private static void images() {
        CHECK.said(42, "An IMAGE (instead of the one ahead): the DAY.");
        CHECK.said(42, "NONE: no YARD.");
        CHECK.due("no yard", new WeatherMarbles().image(), -1);
        CHECK.said(43, "BACK: the DAY.");
        CHECK.said(43, "NONE: no IMAGE of this YARD.");
        CHECK.due("no yard", new WeatherMarbles().back(), -1);
        WeatherMarbles x = yard();
        CHECK.due("no image", x.back(), -1);
        x.chip(1);
        CHECK.due("it can be undone still", x.undo(), 0);
        CHECK.due("day 0", x.image(), 0);
        CHECK.due("back", x.back(), 0);
        CHECK.due("back again", x.back(), 0);
        Check.lay(x, YARD);
        CHECK.due("of another yard, though alike", x.back(), -1);
        CHECK.due("of this one", x.image(), 0);
        CHECK.due("back", x.back(), 0);
        Check.feed(x, "b;mo1");
        CHECK.due("no yard of a fault", x.text(0), -1);
        CHECK.due("the image stays", x.back(), 0);
        WeatherMarbles none = new WeatherMarbles();
        none.image();
        Check.lay(none, YARD);
        CHECK.due("an image that was refused", none.back(), -1);
    }

    private static void imageInstead() {
        CHECK.said(0, "An IMAGE keeps OWNERS, CHIPPED, SWALLOWED, DRAINED ones, SWEETS, the DAY, the LOG;");
        for (int which = 0; which < 8; which++) {
            WeatherMarbles x = yard();
            x.days(2);
            x.image();
            String first = withoutActs(x);
            actOnThird(x, which);
            CHECK.due("act " + which + " changes", withoutActs(x).equals(first), false);
            CHECK.due("back", x.back(), 2);
            same("behind act " + which, withoutActs(x), first);
            actOnThird(x, which);
            String second = withoutActs(x);
            CHECK.due("another", x.image(), x.count(6));
            x.days(9);
            x.chip(2);
            x.swallow(2);
            CHECK.due("back", x.back() >= 2, true);
            same("the second, with act " + which, withoutActs(x), second);
        }
    }

    private static void actOnThird(WeatherMarbles x, int which) {
        if (which == 3) {
            x.give(3, 0);
        } else if (which == 7) {
            x.years(1, 5);
        } else {
            act(x, which);
        }
    }

    private static void imageOfLog() {
        CHECK.said(0, "the DAY, the LOG;");
        for (int days : new int[] {0, 1, 40, 59, 60, 61, 100, 127, 128, 129}) {
            for (int more : new int[] {1, 59, 60, 61, 128, 200}) {
                WeatherMarbles x = Check.yard("sc0;b;b;m;fn1;fw1n2");
                pass(x, days);
                CHECK.due("image", x.image(), days);
                x.give(0, 1);
                pass(x, more);
                CHECK.due("back", x.back(), days);
                CHECK.due("how long", x.count(11), Math.min(60, days));
                for (int i = 0; i < Math.min(60, days); i++) {
                    CHECK.due("log " + i, x.log(i, 0) * 4 + x.log(i, 1), (days - i) * 4 + 1);
                }
                CHECK.due("no more", x.log(Math.min(60, days), 0), -1);
            }
        }
    }

    private static void pass(WeatherMarbles x, int days) {
        for (int gone = 0; gone < days; gone += 60) {
            x.days(Math.min(60, days - gone));
        }
    }

    /** Acts ahead of an IMAGE are undone, others done: BACK goes to a later DAY and its LOG. */
    private static void imageAhead() {
        WeatherMarbles x = Check.yard("sc0;b;bp1;ms1;fn1;fp1n5");
        pass(x, 100);
        x.image();
        for (int i = 0; i < 40; i++) {
            x.undo();
        }
        CHECK.due("the day", x.count(6), 60);
        x.give(0, 1);
        pass(x, 10);
        CHECK.due("sweets", x.rule(2), 59 + 50);
        CHECK.said(0, "BACK: they are so again");
        CHECK.due("back, ahead", x.back(), 100);
        CHECK.due("sweets", x.rule(2), 100);
        for (int i = 0; i < 60; i++) {
            CHECK.due("log " + i, x.log(i, 0) * 4 + x.log(i, 1), (100 - i) * 4 + 1);
        }
        CHECK.due("his again", x.marble(0, 0), 0);
    }

    private static void backEndsUndo() {
        CHECK.said(0, "(no ACT can be UNDONE then).");
        WeatherMarbles x = yard();
        x.chip(0);
        x.days(60);
        x.image();
        CHECK.due("the image lets all be undone", x.count(12), 40);
        x.chip(1);
        CHECK.due("back", x.back(), 60);
        CHECK.due("acts", x.count(12), 0);
        CHECK.due("undo", x.undo(), -1);
        x.chip(1);
        x.days(1);
        CHECK.due("acts from there", x.count(12), 2);
        CHECK.due("undo", x.undo(), 1);
        CHECK.due("undo", x.undo(), 0);
        CHECK.due("undo", x.undo(), -1);
        CHECK.due("still chipped as in the image", x.marble(0, 3) * 10 + x.marble(1, 3), 10);
        WeatherMarbles none = yard();
        none.chip(0);
        CHECK.due("a refused back", none.back(), -1);
        CHECK.due("lets it be undone", none.undo(), 0);
    }

    private static void backKeeps() {
        WeatherMarbles x = yard();
        x.image();
        Check.holds(x, "y:k");
        x.spills(3);
        x.seen(0, 0, true);
        x.chip(9);
        Check.feed(x, "b;");
        x.back();
        CHECK.due("laws", x.count(3), 2);
        CHECK.due("the law that holds", x.count(5), 1);
        CHECK.due("spills", x.count(9), 3);
        CHECK.due("seen", x.count(10), 1);
        CHECK.due("status", x.status(0), 1);
        CHECK.due("the tape", x.count(4), 2);
    }
}
