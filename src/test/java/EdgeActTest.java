/** Terms, part 2, and promises 11 to 16 and 19: each bound of the acts by hand, with STATUS where it counts. */
public final class EdgeActTest {
    private static final Check CHECK = new Check();
    private static final int[] FAR = {Integer.MIN_VALUE, -1000000, -1, 10, 1000000, Integer.MAX_VALUE};
    // By the law y:p a marble comes to the cell of its power; the hole is 5, the drain 8.
    // Marbles: 0 of boy 0, 1 and 2 of boy 1, 3 swallowed of boy 2, 4 drained of late, 5 of boy 2.
    private static final String YARD = "sl5r3c9;b;bp1;bp2;mo0s4;mo1s3;mo1s2;mo2s9;mo0s1;mo2s9";

    public static void main(String[] args) {
        drain();
        nearer();
        gone();
        playAnswers();
        playRefused();
        playOfSeveral();
        swaps();
        swapsRefused();
        gifts();
        giftsRefused();
        tooFew();
        chips();
        swallows();
        days();
        daysRefused();
        lastDay();
        mostSweets();
        statusAsked();
        statusStays();
        withoutYard();
        CHECK.finish();
    }

    private static WeatherMarbles lane(String yard) {
        WeatherMarbles x = Check.yard(yard);
        Check.holds(x, "y:p");
        return x;
    }

    private static WeatherMarbles yard() {
        WeatherMarbles x = lane(YARD);
        x.play(4, 8, 1, 1);
        x.swallow(3);
        return x;
    }

    private static void dueStatus(String what, WeatherMarbles x, String due) {
        if (!Snapshot.status(x).equals(due)) {
            CHECK.due("status " + what + " is " + Snapshot.status(x) + "not " + due, 1, 0);
        }
    }

    /** A refused act: NONE, one more of this status, and nothing else. */
    private static void refused(String what, WeatherMarbles x, String before, int answer, int... status) {
        CHECK.due(what, answer, -1);
        CHECK.due(what + " changes nothing", Snapshot.of(x).equals(before), true);
        for (int i = 0; i < 5; i++) {
            CHECK.due(what + ": status " + i, x.status(i), status[i]);
        }
    }

    private static void drain() {
        CHECK.said(0, "From the DRAIN on (the CELL of the HOLE and as far behind it as told) it is DRAINED: nobody's.");
        for (int far = 1; far <= 9; far++) {
            for (int hole : new int[] {3, 12, 30}) {
                WeatherMarbles x = Check.yard("sl" + hole + "r" + far + ";bk1;bk2;mo0;mo1");
                Check.holds(x, "y:k=2?0;y:" + (hole + far - 1));
                Check.holds(x, "y:k=2?0;y:" + (hole + far));
                Check.holds(x, "y:k=2?0;y:60");
                x.law(0);
                x.play(0, 1, 1, 1);
                CHECK.due("one cell ahead of it, hole " + hole + ", far " + far, x.marble(0, 0) >= 0, true);
                CHECK.due("none drained", x.count(8), 0);
                x.undo();
                x.law(1);
                CHECK.due("at it: nobody wins", x.play(0, 1, 1, 1), 0);
                CHECK.due("nobody's", x.marble(0, 0), -1);
                CHECK.due("drained", x.count(8), 1);
                x.undo();
                x.law(2);
                x.play(0, 1, 1, 1);
                CHECK.due("far behind it", x.marble(0, 0), -1);
            }
        }
    }

    private static void nearer() {
        CHECK.said(0, "A GAME: two BOYS each FLICK a MARBLE of their own (not SWALLOWED, not DRAINED):");
        CHECK.said(0, "the one whose is nearer to the HOLE has both; as near: each keeps his.");
        for (int power = 1; power <= 7; power++) {
            for (int against = 1; against <= 7; against++) {
                WeatherMarbles x = lane("sl5r3;b;b;mo0;mo1");
                int first = Math.abs(power - 5);
                int second = Math.abs(against - 5);
                int winner = first < second ? 1 : second < first ? 2 : 0;
                CHECK.due(power + " against " + against, x.play(0, power, 1, against), winner);
                CHECK.due("the first one's", x.marble(0, 0), winner == 2 ? 1 : 0);
                CHECK.due("the second one's", x.marble(1, 0), winner == 1 ? 0 : 1);
                CHECK.due("none drained", x.count(8), 0);
                CHECK.due("an act", x.count(12), 1);
            }
        }
    }

    private static void gone() {
        CHECK.said(0, "If one or both are DRAINED, these are gone, and nobody has both.");
        for (int power = 1; power <= 9; power++) {
            for (int against = 1; against <= 9; against++) {
                if (power < 8 && against < 8) {
                    continue;
                }
                WeatherMarbles x = lane("sl5r3;b;b;mo0;mo1");
                CHECK.due(power + " against " + against, x.play(0, power, 1, against), 0);
                CHECK.due("the first one's", x.marble(0, 0), power >= 8 ? -1 : 0);
                CHECK.due("the second one's", x.marble(1, 0), against >= 8 ? -1 : 1);
                CHECK.due("drained", x.count(8), (power >= 8 ? 1 : 0) + (against >= 8 ? 2 : 0));
            }
        }
    }

    private static void playAnswers() {
        CHECK.said(11, "A GAME of the OWNERS of two MARBLES: 1 the first has both, 2 the second, 0 neither.");
        WeatherMarbles x = yard();
        CHECK.due("the first", x.play(0, 5, 1, 9 - 2), 1);
        CHECK.due("his", x.hands(0), 3);
        CHECK.due("the second", x.play(1, 1, 5, 2), 2);
        CHECK.due("of another owner now", x.hands(2), 42);
        CHECK.due("neither", x.play(0, 5, 5, 5), 0);
        dueStatus("of games", x, "0 0 0 0 0 ");
    }

    private static void playRefused() {
        CHECK.said(11, "NONE: no such MARBLES (STATUS 0), alike, POWERS out of bounds (1), DRAINED, SWALLOWED, one's own both (2).");
        WeatherMarbles x = yard();
        String before = Snapshot.of(x);
        int n = 0;
        for (int far : new int[] {Integer.MIN_VALUE, -2, -1, 6, 7, Integer.MAX_VALUE}) {
            refused("no marble " + far, x, before, x.play(far, 1, 0, 1), ++n, 0, 0, 0, 0);
            refused("no other " + far, x, before, x.play(0, 1, far, 1), ++n, 0, 0, 0, 0);
            refused("neither " + far, x, before, x.play(far, 1, far, 1), ++n, 0, 0, 0, 0);
        }
        int k = 0;
        for (int power : new int[] {Integer.MIN_VALUE, -1, 0, 10, 11, Integer.MAX_VALUE}) {
            refused("power " + power, x, before, x.play(0, power, 1, 5), n, ++k, 0, 0, 0);
            refused("against " + power, x, before, x.play(0, 5, 1, power), n, ++k, 0, 0, 0);
        }
        for (int m = 0; m < 6; m++) {
            refused("alike " + m, x, before, x.play(m, 1, m, 1), n, ++k, 0, 0, 0);
        }
        refused("drained", x, before, x.play(4, 1, 1, 1), n, k, 1, 0, 0);
        refused("the other drained", x, before, x.play(1, 1, 4, 1), n, k, 2, 0, 0);
        refused("swallowed", x, before, x.play(3, 1, 1, 1), n, k, 3, 0, 0);
        refused("the other swallowed", x, before, x.play(1, 1, 3, 1), n, k, 4, 0, 0);
        refused("his own both", x, before, x.play(1, 1, 2, 1), n, k, 5, 0, 0);
        refused("drained and swallowed", x, before, x.play(3, 1, 4, 1), n, k, 6, 0, 0);
        refused("his own both, one swallowed", x, before, x.play(3, 1, 5, 1), n, k, 7, 0, 0);
        x.play(0, 8, 1, 8);
        before = Snapshot.of(x);
        refused("both drained", x, before, x.play(0, 1, 1, 1), n, k, 8, 0, 0);
        CHECK.due("1 and 9 are powers", x.play(2, 1, 5, 9), 0);
        x.undo();
        CHECK.due("9 and 1 are powers", x.play(2, 9, 5, 1), 0);
    }

    private static void playOfSeveral() {
        CHECK.said(0, "of several the first;");
        WeatherMarbles x = yard();
        String before = Snapshot.of(x);
        refused("no such, alike, power", x, before, x.play(6, 0, 6, 0), 1, 0, 0, 0, 0);
        refused("no such, drained", x, before, x.play(4, 1, 6, 1), 2, 0, 0, 0, 0);
        refused("no such, swallowed, power", x, before, x.play(3, 10, -1, 1), 3, 0, 0, 0, 0);
        refused("alike, drained", x, before, x.play(4, 1, 4, 1), 3, 1, 0, 0, 0);
        refused("alike, swallowed", x, before, x.play(3, 1, 3, 1), 3, 2, 0, 0, 0);
        refused("power, drained", x, before, x.play(4, 0, 1, 1), 3, 3, 0, 0, 0);
        refused("power, swallowed", x, before, x.play(1, 1, 3, 10), 3, 4, 0, 0, 0);
        refused("power, his own both", x, before, x.play(1, 1, 2, 10), 3, 5, 0, 0, 0);
        refused("swap: no such, alike", x, before, x.swap(6, 6), 4, 5, 0, 0, 0);
        refused("swap: alike, drained", x, before, x.swap(4, 4), 4, 6, 0, 0, 0);
        refused("swap: no such, drained", x, before, x.swap(4, 6), 5, 6, 0, 0, 0);
        refused("give: no such boy, drained", x, before, x.give(4, 3), 6, 6, 0, 0, 0);
        refused("give: no such boy, swallowed", x, before, x.give(3, -1), 7, 6, 0, 0, 0);
        x.give(5, 0);
        before = Snapshot.of(x);
        refused("give: it is his, too few", x, before, x.give(0, 0), 7, 6, 1, 0, 0);
        refused("give: swallowed, too few", x, before, x.give(3, 0), 7, 6, 2, 0, 0);
        refused("give: drained, too few", x, before, x.give(4, 0), 7, 6, 3, 0, 0);
        refused("give: no such boy, too few", x, before, x.give(0, 3), 8, 6, 3, 0, 0);
    }

    private static void swaps() {
        CHECK.said(12, "SWAP of two MARBLES by their OWNERS: the OWNER of the first then.");
        CHECK.said(0, "By hand: a GAME; two BOYS SWAP a MARBLE each (none DRAINED or SWALLOWED);");
        WeatherMarbles x = yard();
        CHECK.due("boy 1 has the first", x.swap(0, 1), 1);
        CHECK.due("boy 0 has the other", x.marble(1, 0), 0);
        CHECK.due("boy 2 has the first", x.swap(1, 5), 2);
        CHECK.due("boy 0 has the other", x.marble(5, 0), 0);
        CHECK.due("back", x.swap(5, 1), 2);
        CHECK.due("sweets stay", x.rule(2), 9);
        x.chip(0);
        CHECK.due("a chipped one", x.swap(0, 5), 2);
        CHECK.due("acts", x.count(12), 7);
        dueStatus("of swaps", x, "0 0 0 0 0 ");
    }

    private static void swapsRefused() {
        CHECK.said(12, "NONE: no such ones (STATUS 0), alike (1), DRAINED, SWALLOWED, one's own both (2).");
        WeatherMarbles x = yard();
        String before = Snapshot.of(x);
        int n = 0;
        for (int far : new int[] {Integer.MIN_VALUE, -1, 6, Integer.MAX_VALUE}) {
            refused("no first " + far, x, before, x.swap(far, 0), ++n, 0, 0, 0, 0);
            refused("no other " + far, x, before, x.swap(0, far), ++n, 0, 0, 0, 0);
        }
        for (int m = 0; m < 6; m++) {
            refused("alike " + m, x, before, x.swap(m, m), n, m + 1, 0, 0, 0);
        }
        refused("drained", x, before, x.swap(4, 1), n, 6, 1, 0, 0);
        refused("the other drained", x, before, x.swap(1, 4), n, 6, 2, 0, 0);
        refused("swallowed", x, before, x.swap(3, 1), n, 6, 3, 0, 0);
        refused("the other swallowed", x, before, x.swap(1, 3), n, 6, 4, 0, 0);
        refused("his own both", x, before, x.swap(2, 1), n, 6, 5, 0, 0);
        CHECK.due("the last marble is one", x.swap(5, 0), 0);
    }

    private static void gifts() {
        CHECK.said(13, "GIVEN: SWEETS then.");
        CHECK.said(0, "a MARBLE is GIVEN to another BOY (SWEETS less by SIZE);");
        for (int size = 1; size <= 9; size++) {
            WeatherMarbles x = Check.yard("sc9;b;b;b;b;b;mo4s" + size);
            CHECK.due("size " + size, x.give(0, 0), 9 - size);
            CHECK.due("his", x.marble(0, 0), 0);
            x.undo();
            x.chip(0);
            CHECK.due("chipped, its size all the same", x.give(0, 3), 9 - size);
            CHECK.due("sweets", x.rule(2), 9 - size);
        }
    }

    private static void giftsRefused() {
        CHECK.said(13, "NONE: no such ones (STATUS 0), DRAINED, SWALLOWED, it is his (2), too few (3).");
        WeatherMarbles x = yard();
        String before = Snapshot.of(x);
        int n = 0;
        for (int far : FAR) {
            refused("no marble " + far, x, before, x.give(far, 1), ++n, 0, 0, 0, 0);
            refused("no boy " + far, x, before, x.give(0, far), ++n, 0, 0, 0, 0);
        }
        refused("marble 6 of six", x, before, x.give(6, 1), ++n, 0, 0, 0, 0);
        refused("boy 3 of three", x, before, x.give(0, 3), ++n, 0, 0, 0, 0);
        refused("drained", x, before, x.give(4, 1), n, 0, 1, 0, 0);
        refused("swallowed", x, before, x.give(3, 1), n, 0, 2, 0, 0);
        refused("it is his", x, before, x.give(0, 0), n, 0, 3, 0, 0);
        refused("it is his", x, before, x.give(5, 2), n, 0, 4, 0, 0);
        CHECK.due("just enough", x.give(5, 0), 0);
        before = Snapshot.of(x);
        refused("too few", x, before, x.give(2, 0), n, 0, 4, 1, 0);
    }

    private static void tooFew() {
        CHECK.said(13, "too few (3).");
        for (int size = 1; size <= 9; size++) {
            for (int sweets = 0; sweets <= 10; sweets++) {
                WeatherMarbles x = Check.yard("sc" + sweets + ";b;b;ms" + size);
                CHECK.due(size + " of " + sweets, x.give(0, 1), sweets >= size ? sweets - size : -1);
                CHECK.due("whose", x.marble(0, 0), sweets >= size ? 1 : 0);
                dueStatus("of " + size + " by " + sweets, x, sweets >= size ? "0 0 0 0 0 " : "0 0 0 1 0 ");
                CHECK.due("acts", x.count(12), sweets >= size ? 1 : 0);
            }
        }
    }

    private static void chips() {
        CHECK.said(0, "a MARBLE is CHIPPED (once);");
        CHECK.said(14, "CHIPPED: how many are CHIPPED then.");
        WeatherMarbles x = yard();
        CHECK.said(14, "NONE: no such one (STATUS 0), it is, it is DRAINED (2).");
        int n = 0;
        for (int far : FAR) {
            refused("no marble " + far, x, Snapshot.of(x), x.chip(far), ++n, 0, 0, 0, 0);
        }
        refused("marble 6 of six", x, Snapshot.of(x), x.chip(6), ++n, 0, 0, 0, 0);
        refused("drained", x, Snapshot.of(x), x.chip(4), n, 0, 1, 0, 0);
        int done = 0;
        for (int m : new int[] {5, 3, 1, 0, 2}) {
            CHECK.due("marble " + m, x.chip(m), ++done);
            CHECK.due("it is", x.marble(m, 3), 1);
            refused("once", x, Snapshot.of(x), x.chip(m), n, 0, 1 + done, 0, 0);
        }
        x.play(0, 8, 5, 8);
        refused("chipped and drained", x, Snapshot.of(x), x.chip(0), n, 0, 7, 0, 0);
        WeatherMarbles all = Check.yard("b;m;m;m;m;m;m");
        for (int m = 0; m < 6; m++) {
            CHECK.due("all six", all.chip(m), m + 1);
        }
    }

    private static void swallows() {
        CHECK.said(0, "a MARBLE is SWALLOWED (once; it can't be played, SWAPPED or GIVEN);");
        CHECK.said(15, "SWALLOWED: how many are SWALLOWED then.");
        WeatherMarbles x = yard();
        CHECK.said(15, "NONE: no such one (STATUS 0), it is, it is DRAINED (2).");
        int n = 0;
        for (int far : FAR) {
            refused("no marble " + far, x, Snapshot.of(x), x.swallow(far), ++n, 0, 0, 0, 0);
        }
        refused("marble 6 of six", x, Snapshot.of(x), x.swallow(6), ++n, 0, 0, 0, 0);
        refused("drained", x, Snapshot.of(x), x.swallow(4), n, 0, 1, 0, 0);
        refused("it is", x, Snapshot.of(x), x.swallow(3), n, 0, 2, 0, 0);
        x.chip(5);
        int done = 1;
        for (int m : new int[] {5, 1, 0, 2}) {
            CHECK.due("marble " + m, x.swallow(m), ++done);
            CHECK.due("it is", x.marble(m, 4), 1);
            refused("once", x, Snapshot.of(x), x.swallow(m), n, 0, 1 + done, 0, 0);
        }
        CHECK.due("not played", x.play(0, 5, 1, 5), -1);
        CHECK.due("not swapped", x.swap(0, 1), -1);
        CHECK.due("not given", x.give(2, 0), -1);
        CHECK.due("chipped all the same", x.chip(0), 2);
        WeatherMarbles all = Check.yard("b;m;m;m;m;m;m");
        for (int m = 0; m < 6; m++) {
            CHECK.due("all six", all.swallow(m), m + 1);
        }
    }

    private static void days() {
        CHECK.said(16, "DAYS (1 .. 60): SWEETS then.");
        CHECK.said(0, "DAYS go by.");
        CHECK.said(0, "each CONTENT FARM PAYS");
        for (int n = 1; n <= 60; n++) {
            WeatherMarbles x = Check.yard("sc0;b;m;fn1;fn2;fn4w1;fn8p1");
            CHECK.due(n + " days", x.days(n), 3 * n);
            CHECK.said(0, "the DAY is one later.");
            CHECK.due("the day", x.count(6), n);
            CHECK.due("acts", x.count(12), Math.min(40, n));
            CHECK.due("log", x.count(11), n);
        }
    }

    private static void daysRefused() {
        CHECK.said(16, "NONE: no YARD (STATUS 0), out of bounds (1), beyond 9,999 (4).");
        WeatherMarbles x = Check.yard("b;m;f");
        x.days(1);
        String before = Snapshot.of(x);
        int k = 0;
        for (int n : new int[] {Integer.MIN_VALUE, -60, -1, 0, 61, 62, 9998, 9999, Integer.MAX_VALUE}) {
            refused(n + " days", x, before, x.days(n), 0, ++k, 0, 0, 0);
        }
        WeatherMarbles none = new WeatherMarbles();
        String empty = Snapshot.of(none);
        k = 0;
        for (int n : new int[] {1, 60, 0, 61, -1}) {
            refused("no yard, " + n + " days", none, empty, none.days(n), ++k, 0, 0, 0, 0);
        }
    }

    private static void lastDay() {
        CHECK.said(0, "A DAY (0 at first; 9,999 at most: none goes by then):");
        WeatherMarbles x = Check.yard("b;m;fn1");
        CHECK.due("at first", x.count(6), 0);
        for (int i = 0; i < 166; i++) {
            x.days(60);
        }
        CHECK.due("the day", x.count(6), 9960);
        String before = Snapshot.of(x);
        refused("to day 10,000", x, before, x.days(40), 0, 0, 0, 0, 1);
        refused("to day 10,020", x, before, x.days(60), 0, 0, 0, 0, 2);
        refused("out of bounds ahead of it", x, before, x.days(61), 0, 1, 0, 0, 2);
        CHECK.due("to day 9,999", x.days(39), 999);
        CHECK.due("the day", x.count(6), 9999);
        before = Snapshot.of(x);
        refused("one more", x, before, x.days(1), 0, 1, 0, 0, 3);
        refused("sixty more", x, before, x.days(60), 0, 1, 0, 0, 4);
        refused("out of bounds ahead of it", x, before, x.days(0), 0, 2, 0, 0, 4);
        CHECK.due("other acts go on", x.chip(0), 1);
        x.undo();
        x.undo();
        CHECK.due("one less", x.count(6), 9998);
        CHECK.due("two are too many", x.days(2), -1);
        CHECK.due("one is not", x.days(1), 999);
    }

    private static void mostSweets() {
        CHECK.said(0, "(SWEETS 999 at most);");
        for (int pay = 1; pay <= 9; pay++) {
            WeatherMarbles x = Check.yard("sc99;b;m;f" + "n" + pay + ";fn" + pay);
            int sweets = 99;
            for (int d = 0; d < 60; d++) {
                sweets = Math.min(999, sweets + 2 * pay);
                CHECK.due("pay " + pay + ", day " + d, x.days(1), sweets);
                CHECK.due("the log", x.log(0, 0), sweets);
            }
        }
        // 99 and 900: to the sweet
        WeatherMarbles even = Check.yard("sc99;b;m;fn9;fn6");
        CHECK.due("999 just so", even.days(60), 999);
        CHECK.due("still", even.days(1), 999);
        WeatherMarbles less = Check.yard("sc98;b;m;fn9;fn6");
        CHECK.due("998", less.days(60), 998);
        CHECK.due("1 of 15", less.days(1), 999);
        CHECK.due("a farm is content all the same", less.log(0, 1), 3);
        less.undo();
        CHECK.due("undone", less.rule(2), 998);
    }

    private static void statusAsked() {
        CHECK.said(19, "STATUS.");
        WeatherMarbles x = Check.yard("sc0;b;b;m;m");
        for (int i = 0; i < 5; i++) {
            CHECK.due("none yet " + i, x.status(i), 0);
        }
        x.chip(2);
        x.swap(0, 0);
        x.swap(0, 0);
        x.swap(0, 1);
        x.swap(0, 1);
        x.swap(0, 1);
        for (int i = 0; i < 4; i++) {
            x.give(0, 1);
        }
        for (int i = 0; i < 166; i++) {
            x.days(60);
        }
        for (int i = 0; i < 5; i++) {
            x.days(60);
        }
        for (int i = 0; i < 5; i++) {
            CHECK.due("status " + i, x.status(i), i + 1);
        }
        CHECK.said(19, "NONE: no such what.");
        for (int what : new int[] {Integer.MIN_VALUE, -2, -1, 5, 6, Integer.MAX_VALUE}) {
            CHECK.due("what " + what, x.status(what), -1);
            CHECK.due("without a yard " + what, new WeatherMarbles().status(what), -1);
        }
    }

    private static void statusStays() {
        CHECK.said(0, "STATUS: how many ACTS were refused as there was no such one (0), alike, out of bounds (1),");
        CHECK.said(0, "it is DRAINED, SWALLOWED, CHIPPED, not his (2), too few SWEETS (3), beyond the last DAY (4);");
        CHECK.said(0, "not UNDONE.");
        WeatherMarbles x = yard();
        x.chip(0);
        x.chip(0);
        x.chip(9);
        x.days(0);
        dueStatus("so far", x, "1 1 1 0 0 ");
        for (int i = 0; i < 4; i++) {
            x.undo();
        }
        dueStatus("behind undo", x, "1 1 1 0 0 ");
        x.image();
        x.chip(9);
        x.back();
        dueStatus("behind back", x, "2 1 1 0 0 ");
        CHECK.said(0, "What is refused answers as told and changes nothing but STATUS.");
        x.undo();
        x.law(9);
        x.end(-1);
        x.text(7);
        x.spills(10);
        x.years(0, 1);
        x.years(61, 1);
        x.seen(10, 0, true);
        x.wins(9, 1, 1, 1);
        x.game(0, 0, 1, 1, 0);
        x.rests(0, 0, -1);
        x.odds(1, 1, 2, 1, 1);
        x.lands(9, 9, 9);
        x.give(3, 9);
        dueStatus("questions and refused settings count nowhere", x, "3 1 1 0 0 ");
    }

    private static void withoutYard() {
        CHECK.said(0, "STATUS: how many ACTS were refused as there was no such one (0),");
        WeatherMarbles x = new WeatherMarbles();
        String empty = Snapshot.of(x);
        refused("play", x, empty, x.play(0, 1, 1, 1), 1, 0, 0, 0, 0);
        refused("play", x, empty, x.play(0, 0, 0, 0), 2, 0, 0, 0, 0);
        refused("swap", x, empty, x.swap(0, 0), 3, 0, 0, 0, 0);
        refused("give", x, empty, x.give(0, 0), 4, 0, 0, 0, 0);
        refused("chip", x, empty, x.chip(0), 5, 0, 0, 0, 0);
        refused("swallow", x, empty, x.swallow(0), 6, 0, 0, 0, 0);
        refused("days", x, empty, x.days(1), 7, 0, 0, 0, 0);
        x.years(1, 1);
        x.undo();
        x.image();
        x.back();
        dueStatus("no others", x, "7 0 0 0 0 ");
        CHECK.due("a yard", Check.feed(x, "b;m"), 3);
        x.text(0);
        dueStatus("is told on by a yard", x, "7 0 0 0 0 ");
    }
}
