/** Promises 18, 20, 21, 42 and 43: YEARS by draws, acts undone, the LOG, images. */
public final class PastTest {
    private static final Check CHECK = new Check();
    private static final String YARD = "sl5r3c20;b;bp1;bp1;mo0s4;mo1w1s3;mo1w2s2;mo2s9;fp1n3;fp0n4";

    public static void main(String[] args) {
        undoing();
        undoingDays();
        logs();
        longLog();
        images();
        imageOfLog();
        years();
        oneYearTold();
        yearsWithSpills();
        refusedYears();
        CHECK.finish();
    }

    private static long fingerprint(WeatherMarbles x) {
        long sum = 0;
        for (int m = 0; m < 6; m++) {
            for (int what = 0; what < 5; what++) {
                sum = sum * 31 + x.marble(m, what);
            }
        }
        sum = sum * 1009 + x.rule(2);
        sum = sum * 10007 + x.count(6);
        for (int i = 0; i < 61; i++) {
            sum = sum * 31 + x.log(i, 0) * 64 + x.log(i, 1);
        }
        return sum;
    }

    private static void undoing() {
        WeatherMarbles x = Check.yard(YARD);
        Check.holds(x, "y:p");
        CHECK.due("nothing yet", x.undo(), -1);
        long[] prints = new long[9];
        int n = 0;
        prints[n++] = fingerprint(x);
        x.play(0, 5, 1, 1);
        prints[n++] = fingerprint(x);
        x.play(3, 9, 2, 8);
        prints[n++] = fingerprint(x);
        x.undo();
        x.swap(0, 2);
        prints[n++] = fingerprint(x);
        x.give(3, 0);
        prints[n++] = fingerprint(x);
        x.chip(1);
        prints[n++] = fingerprint(x);
        x.swallow(1);
        prints[n++] = fingerprint(x);
        x.days(1);
        prints[n++] = fingerprint(x);
        x.years(1, 77);
        CHECK.due("acts", x.count(12), 7);
        for (int left = 6; left >= 0; left--) {
            CHECK.due("undo", x.undo(), left);
            n -= n == 3 ? 2 : 1; // the game that was undone is no act
            CHECK.due("as it was with " + left, fingerprint(x), prints[n]);
        }
        CHECK.due("no more", x.undo(), -1);
        CHECK.due("as at first", fingerprint(x), prints[0]);
    }

    private static void undoingDays() {
        WeatherMarbles x = Check.yard(YARD);
        x.days(3);
        CHECK.due("each day is an act", x.count(12), 3);
        x.days(36);
        CHECK.due("39", x.count(12), 39);
        x.chip(0);
        CHECK.due("40", x.count(12), 40);
        x.chip(1);
        CHECK.due("40 at most", x.count(12), 40);
        CHECK.due("undo", x.undo(), 39);
        CHECK.due("not chipped", x.marble(1, 3), 0);
        CHECK.due("chipped", x.marble(0, 3), 1);
        x.undo();
        for (int left = 37; left >= 0; left--) {
            CHECK.due("undo a day", x.undo(), left);
        }
        CHECK.due("the first day can't be", x.count(6), 1);
        CHECK.due("no more", x.undo(), -1);
        CHECK.due("its log", x.log(0, 0), 27);
        CHECK.due("log", x.count(11), 1);
    }

    private static void logs() {
        WeatherMarbles x = Check.yard("sc10;b;b;mw1;mo1w1s1;fw1n4;fw0;fw1n1");
        CHECK.due("none yet", x.log(0, 0), -1);
        x.days(1);
        CHECK.due("sweets then", x.log(0, 0), 15);
        CHECK.due("content", x.log(0, 1), 5);
        x.give(1, 0);
        CHECK.due("not as they are now", x.log(0, 0), 15);
        x.chip(0);
        x.chip(1);
        x.days(1);
        CHECK.due("one left", x.log(0, 0), 19);
        CHECK.due("the one ahead", x.log(1, 0), 15);
        x.swallow(0);
        CHECK.due("content", x.log(1, 1), 5);
        CHECK.due("beyond", x.log(2, 0), -1);
        CHECK.due("ahead of it", x.log(-1, 0), -1);
        CHECK.due("no such what", x.log(0, 2), -1);
        CHECK.due("no such what", x.log(0, -1), -1);
        CHECK.due("how long", x.count(11), 2);
        CHECK.due("no yard", new WeatherMarbles().log(0, 0), -1);
    }

    private static void longLog() {
        WeatherMarbles x = Check.yard("sc0;b;m;fn1");
        for (int i = 0; i < 5; i++) {
            x.days(40);
        }
        CHECK.due("how long", x.count(11), 60);
        CHECK.due("the latest", x.log(0, 0), 200);
        CHECK.due("the last one", x.log(59, 0), 141);
        CHECK.due("gone", x.log(60, 0), -1);
        for (int i = 0; i < 40; i++) {
            x.undo();
        }
        CHECK.due("how long", x.count(11), 60);
        CHECK.due("the latest", x.log(0, 0), 160);
        CHECK.due("the last one is there again", x.log(59, 0), 101);
        CHECK.due("gone", x.log(60, 0), -1);
    }

    private static void images() {
        WeatherMarbles x = Check.yard(YARD);
        Check.holds(x, "y:p");
        CHECK.due("none yet", x.back(), -1);
        x.chip(0);
        x.days(2);
        CHECK.due("image", x.image(), 2);
        CHECK.due("is no act", x.count(12), 3);
        long print = fingerprint(x);
        x.play(0, 9, 1, 1);
        x.give(3, 0);
        x.swallow(2);
        x.chip(3);
        x.days(9);
        x.law(-1);
        x.spills(3);
        x.seen(0, 0, true);
        CHECK.due("back", x.back(), 2);
        CHECK.due("as it was", fingerprint(x), print);
        CHECK.due("nothing can be undone", x.undo(), -1);
        CHECK.due("acts", x.count(12), 0);
        CHECK.due("the law stays", x.count(5), -1);
        CHECK.due("spills stay", x.count(9), 3);
        CHECK.due("seen stays", x.count(10), 1);
        x.days(5);
        CHECK.due("back again", x.back(), 2);
        CHECK.due("as it was", fingerprint(x), print);
        x.days(5);
        CHECK.due("another instead", x.image(), 7);
        x.days(1);
        CHECK.due("back", x.back(), 7);
        x.days(1);
        CHECK.due("acts", x.undo(), 0);
        CHECK.due("the day", x.count(6), 7);
        Check.lay(x, YARD);
        CHECK.due("of another yard", x.back(), -1);
        CHECK.due("no yard", new WeatherMarbles().image(), -1);
        CHECK.due("no yard", new WeatherMarbles().back(), -1);
    }

    private static void imageOfLog() {
        WeatherMarbles x = Check.yard("sc0;b;m;fn1");
        x.days(60);
        x.days(40);
        x.image();
        for (int i = 0; i < 5; i++) {
            x.days(60);
        }
        CHECK.due("the latest", x.log(0, 0), 400);
        CHECK.due("back", x.back(), 100);
        for (int i = 0; i < 60; i++) {
            CHECK.due("log " + i, x.log(i, 0), 100 - i);
        }
        CHECK.due("gone", x.log(60, 0), -1);
        x.days(1);
        CHECK.due("one more", x.log(1, 0), 100);
        x.undo();
        CHECK.due("the last one", x.log(59, 0), 41);
    }

    private static void years() {
        for (long seed : new long[] {0, 1, -1, 123456789012345L, Long.MIN_VALUE, Long.MAX_VALUE}) {
            WeatherMarbles x = Check.yard(YARD);
            Check.holds(x, "y:p");
            CHECK.due("years", x.years(12, seed), 12);
            CHECK.due("acts", x.count(12), 12);
            CHECK.due("log", x.count(11), 12);
            WeatherMarbles byHand = Check.yard(YARD);
            Check.holds(byHand, "y:p");
            new Dice(seed).years(byHand, 12, 0);
            CHECK.due("by seed " + seed, fingerprint(x), fingerprint(byHand));
            CHECK.due("no status", x.status(0) + x.status(1) + x.status(2), 0);
        }
    }

    /** By seed 5 the draws are 1724882992, 301167773, 1762018234, 664543405, 950767375, 556451411. */
    private static void oneYearTold() {
        WeatherMarbles x = Check.yard("sl5r3;b;b;mo0;mo1;f");
        Check.holds(x, "y:p");
        x.spills(5);
        CHECK.due("a day", x.years(1, 5), 1);
        CHECK.due("power 8: gone", x.marble(0, 0), -1);
        CHECK.due("power 2: stays", x.marble(1, 0), 1);
        CHECK.due("5 is not below 5", x.marble(1, 3), 0);
        CHECK.due("content by what is left", x.log(0, 0), 12);
        x.undo();
        x.spills(6);
        x.years(1, 5);
        CHECK.due("chipped", x.marble(1, 3), 1);
        CHECK.due("undo", x.undo(), 0);
        CHECK.due("whole", x.marble(1, 3), 0);
        CHECK.due("his again", x.marble(0, 0), 0);
        // by seed 42 both draws of a marble are even
        x.years(1, 42);
        CHECK.due("no game of one marble", x.count(8), 0);
    }

    private static void yearsWithSpills() {
        for (int spills = 1; spills <= 9; spills++) {
            WeatherMarbles x = Check.yard(YARD);
            WeatherMarbles byHand = Check.yard(YARD);
            x.swallow(2);
            byHand.swallow(2);
            x.spills(spills);
            CHECK.due("years", x.years(20, spills * 1000003L), 20);
            new Dice(spills * 1000003L).years(byHand, 20, spills);
            CHECK.due("with spills " + spills, fingerprint(x), fingerprint(byHand));
            CHECK.due("each day is one act", x.count(12), 21);
            for (int i = 20; i >= 1; i--) {
                CHECK.due("undo", x.undo(), i);
            }
            CHECK.due("the day", x.count(6), 0);
            CHECK.due("whole again", x.marble(0, 3) + x.marble(1, 3) + x.marble(2, 3) + x.marble(3, 3), 0);
            CHECK.due("anew, from the seed again", x.years(20, spills * 1000003L), 20);
            CHECK.due("with spills " + spills, fingerprint(x), fingerprint(byHand));
        }
    }

    private static void refusedYears() {
        WeatherMarbles x = Check.yard(YARD);
        CHECK.due("none", x.years(0, 1), -1);
        CHECK.due("too many", x.years(61, 1), -1);
        CHECK.due("less than none", x.years(-5, 1), -1);
        CHECK.due("sixty", x.years(60, 1), 60);
        CHECK.due("acts", x.count(12), 40);
        CHECK.due("no yard", new WeatherMarbles().years(1, 1), -1);
        for (int i = 0; i < 5; i++) {
            CHECK.due("no status", x.status(i), 0);
        }
    }
}
