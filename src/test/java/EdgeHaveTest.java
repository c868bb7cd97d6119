/** Promises 6 to 9, 33 to 35, 37 to 41 and 44, and their Terms: what there is, what boys have, like and share. */
public final class EdgeHaveTest {
    private static final Check CHECK = new Check();
    private static final int HIDDEN = -1000000;
    private static final int[] NEVER = {Integer.MIN_VALUE, -1000000, -2, -1, 13, 1000000, Integer.MAX_VALUE};

    public static void main(String[] args) {
        rules();
        boys();
        marbles();
        farms();
        corners();
        cornersOfAll();
        likings();
        likingsRefused();
        trades();
        tradesAtTheEdge();
        tradesRefused();
        shares();
        sharesRefused();
        pays();
        saves();
        savesRefused();
        hands();
        richest();
        strongest();
        mostRefused();
        counts();
        countsFull();
        CHECK.finish();
    }

    /** By the law y:p a marble comes to the cell of its power; the hole is 5, the drain 8. */
    private static WeatherMarbles lane(String rest) {
        WeatherMarbles x = Check.yard("sl5r3;" + rest);
        Check.holds(x, "y:p");
        return x;
    }

    private static void rules() {
        CHECK.said(6, "0 the HOLE, 1 how far the DRAIN is, 2 SWEETS now.");
        WeatherMarbles x = Check.yard("sl30r9c99;b;b;ms9;f");
        CHECK.due("hole", x.rule(0), 30);
        CHECK.due("drain", x.rule(1), 9);
        CHECK.due("sweets", x.rule(2), 99);
        x.give(0, 1);
        CHECK.due("sweets now", x.rule(2), 90);
        x.days(1);
        CHECK.due("sweets now", x.rule(2), 92);
        CHECK.due("the hole stays", x.rule(0), 30);
        CHECK.said(6, "NONE: no YARD, no such what.");
        for (int what : NEVER) {
            CHECK.due("what " + what, x.rule(what), -1);
        }
        CHECK.due("what 3", x.rule(3), -1);
        for (int what = -1; what < 4; what++) {
            CHECK.due("no yard", new WeatherMarbles().rule(what), -1);
        }
    }

    private static void boys() {
        CHECK.said(7, "Of a BOY: 0 SKILL, 1 PLACE, 2 how many MARBLES he has.");
        WeatherMarbles x = lane("bk1p9;bk9;b;b;bk7p3;m;m;m;m;mo4;mo4");
        CHECK.due("skill of the first", x.boy(0, 0), 1);
        CHECK.due("place of the first", x.boy(0, 1), 9);
        CHECK.due("marbles of the first", x.boy(0, 2), 4);
        CHECK.due("skill of the last", x.boy(4, 0), 7);
        CHECK.due("place of the last", x.boy(4, 1), 3);
        CHECK.due("marbles of the last", x.boy(4, 2), 2);
        CHECK.due("no marbles", x.boy(1, 2), 0);
        x.swallow(0);
        CHECK.due("a swallowed one is his", x.boy(0, 2), 4);
        x.play(1, 8, 4, 1);
        CHECK.due("a drained one is not", x.boy(0, 2), 3);
        CHECK.said(7, "NoSuchElementException: no such ones.");
        for (int far : NEVER) {
            CHECK.due("boy " + far, Check.boyThrows(x, far, 0), true);
            CHECK.due("what " + far, Check.boyThrows(x, 0, far), true);
            CHECK.due("both " + far, Check.boyThrows(x, far, far), true);
        }
        CHECK.due("boy 5 of five", Check.boyThrows(x, 5, 0), true);
        CHECK.due("boy 1 of one", Check.boyThrows(Check.yard("b;m"), 1, 0), true);
        CHECK.due("boy 0 of one", Check.boyThrows(Check.yard("b;m"), 0, 0), false);
        CHECK.due("what 3", Check.boyThrows(x, 0, 3), true);
        CHECK.due("what 2", Check.boyThrows(x, 4, 2), false);
        for (int what = 0; what < 3; what++) {
            CHECK.due("no yard", Check.boyThrows(new WeatherMarbles(), 0, what), true);
        }
        CHECK.due("nothing changed", x.count(12) * 10 + x.status(0), 20);
    }

    private static void marbles() {
        CHECK.said(8, "Of a MARBLE: 0 OWNER now (NONE: DRAINED), 1 KIND, 2 SIZE, 3 whether CHIPPED, 4 SWALLOWED (1, 0).");
        WeatherMarbles x = lane("b;b;b;b;b;mo4w5s9;m;m;m;m;mo1w1s1");
        int[] first = {4, 5, 9, 0, 0};
        int[] last = {1, 1, 1, 0, 0};
        for (int what = 0; what < 5; what++) {
            CHECK.due("the first: " + what, x.marble(0, what), first[what]);
            CHECK.due("the last: " + what, x.marble(5, what), last[what]);
        }
        x.give(0, 3);
        CHECK.due("owner now", x.marble(0, 0), 3);
        x.chip(0);
        x.swallow(5);
        CHECK.due("chipped, not swallowed", x.marble(0, 3) * 10 + x.marble(0, 4), 10);
        CHECK.due("swallowed, not chipped", x.marble(5, 3) * 10 + x.marble(5, 4), 1);
        CHECK.due("its size all the same", x.marble(0, 2), 9);
        x.play(0, 8, 1, 1);
        CHECK.due("drained", x.marble(0, 0), -1);
        CHECK.due("kind and size of a drained one", x.marble(0, 1) * 10 + x.marble(0, 2), 59);
        CHECK.due("chipped all the same", x.marble(0, 3), 1);
        CHECK.said(8, "HIDDEN: no such ones.");
        for (int far : NEVER) {
            CHECK.due("marble " + far, x.marble(far, 0), HIDDEN);
            CHECK.due("what " + far, x.marble(0, far), HIDDEN);
        }
        CHECK.due("marble 6 of six", x.marble(6, 0), HIDDEN);
        CHECK.due("marble 1 of one", Check.yard("b;m").marble(1, 0), HIDDEN);
        CHECK.due("what 5", x.marble(0, 5), HIDDEN);
        CHECK.due("no yard", new WeatherMarbles().marble(0, 0), HIDDEN);
    }

    private static void farms() {
        CHECK.said(9, "Of a FARM: 0 PLACE, 1 KIND, 2 what it PAYS, 3 whether CONTENT (1, 0).");
        WeatherMarbles x = Check.yard("bp9;mw5;fp9w5n9;f;f;f;f;fp9w4n0");
        int[] first = {9, 5, 9, 1};
        int[] last = {9, 4, 0, 0};
        for (int what = 0; what < 4; what++) {
            CHECK.due("the first: " + what, x.farm(0, what), first[what]);
            CHECK.due("the last: " + what, x.farm(5, what), last[what]);
        }
        CHECK.said(9, "NONE: no such ones.");
        for (int far : NEVER) {
            CHECK.due("farm " + far, x.farm(far, 0), -1);
            CHECK.due("what " + far, x.farm(0, far), -1);
        }
        CHECK.due("farm 6 of six", x.farm(6, 0), -1);
        CHECK.due("what 4", x.farm(0, 4), -1);
        for (int what = 0; what < 4; what++) {
            CHECK.due("no farms", Check.yard("b;m").farm(0, what), -1);
            CHECK.due("no yard", new WeatherMarbles().farm(0, what), -1);
        }
    }

    private static void corners() {
        CHECK.said(0, "CORNER of a KIND: the BOY that has all of that KIND that are not DRAINED (at least one).");
        CHECK.said(33, "CORNER.");
        WeatherMarbles x = lane("b;b;b;mo1;mo2;mo1w5;mo1w5;mo0w3");
        CHECK.due("two have 0", x.corner(0), -1);
        CHECK.due("one has all of 5", x.corner(5), 1);
        CHECK.due("the only 3", x.corner(3), 0);
        x.play(1, 8, 4, 1);
        CHECK.due("a drained one behind his own does not count", x.corner(0), 1);
        x.undo();
        x.play(0, 8, 4, 1);
        CHECK.due("a drained one ahead of his own does not count", x.corner(0), 2);
        x.undo();
        x.swallow(1);
        CHECK.due("a swallowed one does", x.corner(0), -1);
        x.swallow(2);
        CHECK.due("a swallowed one of his own, too", x.corner(5), 1);
        CHECK.said(33, "NONE: none, no YARD, no such KIND.");
        CHECK.due("there is no 1", x.corner(1), -1);
        x.play(4, 8, 3, 1);
        CHECK.due("the only 3 is drained", x.corner(3), -1);
        for (int kind : NEVER) {
            CHECK.due("kind " + kind, x.corner(kind), -1);
        }
        CHECK.due("kind 6", x.corner(6), -1);
        for (int kind = -1; kind <= 6; kind++) {
            CHECK.due("no yard", new WeatherMarbles().corner(kind), -1);
        }
    }

    private static void cornersOfAll() {
        for (int kind = 0; kind < 6; kind++) {
            for (int b = 0; b < 5; b++) {
                WeatherMarbles x = Check.yard("b;b;b;b;b;mo" + b + "w" + kind + ";mo" + b + "w" + kind + ";mo"
                    + (b + 1) % 5 + "w" + (kind + 1) % 6);
                CHECK.due("kind " + kind + " of boy " + b, x.corner(kind), b);
                CHECK.due("the next kind", x.corner((kind + 1) % 6), (b + 1) % 5);
                CHECK.due("no other", x.corner((kind + 2) % 6), -1);
            }
        }
    }

    private static void likings() {
        CHECK.said(0, "LIKING of a BOY for a MARBLE: SIZE (2 less, 0 at least, if it is CHIPPED) and 5, if a FARM of his PLACE WANTS that KIND.");
        CHECK.said(34, "LIKING.");
        for (int size = 1; size <= 9; size++) {
            WeatherMarbles x = Check.yard("b;bp1;bp9;mw4s" + size + ";f;fp1w4;fp1w4;fw3;fp9w5");
            CHECK.due("size", x.liking(0, 0), size);
            CHECK.due("and 5, once", x.liking(1, 0), size + 5);
            CHECK.due("another kind is wanted", x.liking(2, 0), size);
            x.chip(0);
            int chipped = size == 1 ? 0 : size - 2;
            CHECK.due("chipped", x.liking(0, 0), chipped);
            CHECK.due("chipped and 5", x.liking(1, 0), chipped + 5);
            x.swallow(0);
            CHECK.due("swallowed", x.liking(1, 0), chipped + 5);
        }
        WeatherMarbles y = lane("b;b;mo0s4;mo1s5;f");
        y.play(0, 8, 1, 8);
        CHECK.due("a drained one", y.liking(1, 0), 9);
        CHECK.due("content or not", Check.yard("bp3;mw2;fp3w1;fp3w2").liking(0, 0), 8);
    }

    private static void likingsRefused() {
        CHECK.said(34, "NONE: no such ones.");
        WeatherMarbles x = Check.yard("b;b;b;b;b;m;m;m;m;m;ms9");
        for (int far : NEVER) {
            CHECK.due("boy " + far, x.liking(far, 0), -1);
            CHECK.due("marble " + far, x.liking(0, far), -1);
        }
        CHECK.due("boy 5 of five", x.liking(5, 0), -1);
        CHECK.due("marble 6 of six", x.liking(0, 6), -1);
        CHECK.due("the last of each", x.liking(4, 5), 9);
        CHECK.due("no yard", new WeatherMarbles().liking(0, 0), -1);
    }

    private static void dueTrades(String what, WeatherMarbles x, int... due) {
        CHECK.due("how many: " + what, x.trades(-1), due.length);
        for (int i = 0; i < due.length; i++) {
            CHECK.due("the " + i + ": " + what, x.trades(i), due[i]);
        }
        CHECK.due("no more: " + what, x.trades(due.length), -1);
    }

    private static void trades() {
        CHECK.said(0, "TRADES: 10 times a MARBLE and another one of a greater number that two BOYS could SWAP");
        CHECK.said(35, "TRADES: how many (i NONE), the i-th.");
        WeatherMarbles x = lane("b;bp1;mo0w1;mo1w2;mo0w1;mo1w2;mo0w1;mo1w2;fw2;fp1w1");
        dueTrades("all pairs of two boys", x, 1, 3, 5, 12, 14, 23, 25, 34, 45);
        x.swallow(0);
        dueTrades("without a swallowed one", x, 12, 14, 23, 25, 34, 45);
        x.play(2, 8, 5, 1);
        dueTrades("nor a drained one", x, 14, 34, 45);
        x.undo();
        x.undo();
        x.swap(0, 1);
        dueTrades("done: he likes what he has", x, 23, 25, 34, 45);
        dueTrades("of one boy: none", Check.yard("b;mw1;mw2s9;fw2"));
    }

    private static void tradesAtTheEdge() {
        CHECK.said(0, "so that each LIKES what he has then more than what he gave: how many, the i-th (rising).");
        for (int size = 1; size <= 9; size++) {
            for (int other = 1; other <= 9; other++) {
                // the first likes the other by 5 more than its size, the second the first one's
                WeatherMarbles x = Check.yard("b;bp1;mo0w1s" + size + ";mo1w2s" + other + ";fw2;fp1w1");
                boolean both = other + 5 > size && size + 5 > other;
                dueTrades(size + " for " + other, x, both ? new int[] {1} : new int[0]);
                WeatherMarbles one = Check.yard("b;bp1;mo0w1s" + size + ";mo1w2s" + other + ";fw2");
                dueTrades("wanted by one: " + size + " for " + other, one,
                    other + 5 > size && size > other ? new int[] {1} : new int[0]);
                x.chip(0);
                int chipped = Math.max(0, size - 2);
                both = other + 5 > chipped && chipped + 5 > other;
                dueTrades("chipped: " + size + " for " + other, x, both ? new int[] {1} : new int[0]);
            }
        }
    }

    private static void tradesRefused() {
        CHECK.said(35, "NONE: no such one, no YARD.");
        WeatherMarbles x = Check.yard("b;bp1;mo0w1;mo1w2;fw2;fp1w1");
        CHECK.due("how many", x.trades(-1), 1);
        CHECK.due("the first", x.trades(0), 1);
        for (int i : new int[] {Integer.MIN_VALUE, -3, -2, 1, 2, Integer.MAX_VALUE}) {
            CHECK.due("the " + i, x.trades(i), -1);
            CHECK.due("no yard, the " + i, new WeatherMarbles().trades(i), -1);
        }
        CHECK.due("no yard", new WeatherMarbles().trades(-1), -1);
        CHECK.due("no yard", new WeatherMarbles().trades(0), -1);
        CHECK.due("none: how many", Check.yard("b;m").trades(-1), 0);
        CHECK.due("none: the first", Check.yard("b;m").trades(0), -1);
    }

    private static void shares() {
        CHECK.said(0, "SHARES of c (0 .. 999) SWEETS by SIZES of all MARBLES that BOYS have: for a BOY c times his by all, cut (none: 0).");
        CHECK.said(37, "SHARES.");
        WeatherMarbles x = lane("b;b;b;mo0s5;mo1s4;mo1s9");
        for (int c : new int[] {0, 1, 2, 3, 4, 17, 18, 19, 500, 998, 999}) {
            CHECK.due("5 of 18, of " + c, x.shares(0, c), 5 * c / 18);
            CHECK.due("13 of 18, of " + c, x.shares(1, c), 13 * c / 18);
            CHECK.due("he has none, of " + c, x.shares(2, c), 0);
        }
        x.chip(0);
        x.swallow(1);
        CHECK.due("by sizes all the same", x.shares(0, 18) * 100 + x.shares(1, 18), 513);
        x.play(0, 1, 2, 8);
        CHECK.due("drained ones are nobody's", x.shares(0, 9) * 100 + x.shares(1, 9), 504);
        x.play(0, 8, 1, 8);
        CHECK.due("a swallowed one can't be played", x.count(8), 4);
        CHECK.due("one has all", Check.yard("b;b;mo1s9;mo1s9;mo1s9;mo1s9;mo1s9;mo1s9").shares(1, 999), 999);
        WeatherMarbles gone = lane("b;b;mo0;mo1");
        gone.play(0, 8, 1, 9);
        CHECK.due("none at all: 0", gone.shares(0, 999), 0);
        CHECK.due("none at all: 0", gone.shares(1, 0), 0);
    }

    private static void sharesRefused() {
        CHECK.said(37, "NONE: no such BOY, out of bounds.");
        WeatherMarbles x = Check.yard("b;b;b;b;b;mo4");
        for (int far : NEVER) {
            CHECK.due("boy " + far, x.shares(far, 1), -1);
        }
        CHECK.due("boy 5 of five", x.shares(5, 1), -1);
        CHECK.due("boy 4 of five", x.shares(4, 1), 1);
        for (int c : new int[] {Integer.MIN_VALUE, -2, -1, 1000, 1001, Integer.MAX_VALUE}) {
            CHECK.due("of " + c, x.shares(4, c), -1);
            CHECK.due("of " + c + " for one who has none", x.shares(0, c), -1);
        }
        CHECK.due("of 0", x.shares(4, 0), 0);
        CHECK.due("of 999", x.shares(4, 999), 999);
        CHECK.due("no yard", new WeatherMarbles().shares(0, 0), -1);
    }

    private static void pays() {
        CHECK.said(0, "PAYS: SWEETS of one DAY now.");
        CHECK.said(38, "PAYS.");
        CHECK.due("the most", Check.yard("b;m;fn9;fn9;fn9;fn9;fn9;fn9").pays(), 54);
        CHECK.due("content ones alone", Check.yard("b;m;fn9;fn8w1;fn7p1;fn0").pays(), 9);
        CHECK.due("no farms", Check.yard("b;m").pays(), 0);
        WeatherMarbles x = Check.yard("sc99;b;b;ms2;fn9");
        x.days(60);
        x.days(60);
        CHECK.due("999 sweets", x.rule(2), 999);
        CHECK.due("what the farms pay", x.pays(), 9);
        x.chip(0);
        CHECK.due("not content now", x.pays(), 0);
        CHECK.said(38, "NONE: no YARD.");
        CHECK.due("no yard", new WeatherMarbles().pays(), -1);
    }

    private static void saves() {
        CHECK.said(0, "SAVES of n (1 .. 999): behind how many DAYS (0 .. 60) SWEETS are n or more (as now).");
        CHECK.said(39, "SAVES.");
        for (int pay = 0; pay <= 9; pay++) {
            WeatherMarbles x = Check.yard("sc10;b;m;fn" + pay + ";fn9p1");
            for (int n = 1; n <= 999; n += n < 20 ? 1 : 7) {
                int due = -1;
                for (int d = 60; d >= 0; d--) {
                    due = 10 + d * pay >= n ? d : due;
                }
                CHECK.due(n + " by " + pay, x.saves(n), due);
            }
            CHECK.said(39, "NONE: not within 60, no YARD, out of bounds.");
            CHECK.due("60 days", x.saves(10 + 60 * pay), pay == 0 ? 0 : 60);
            CHECK.due("61 days", x.saves(11 + 60 * pay), -1);
            CHECK.due("nothing happens", x.count(6), 0);
        }
        WeatherMarbles x = Check.yard("sc0;b;m;fn1");
        CHECK.due("as it is: none", x.saves(1), 1);
        x.days(1);
        CHECK.due("from now on", x.saves(61), 60);
        CHECK.due("from now on", x.saves(62), -1);
    }

    private static void savesRefused() {
        WeatherMarbles x = Check.yard("sc99;b;m;fn9;fn9;fn9;fn9;fn9;fn9");
        CHECK.due("999", x.saves(999), 17);
        CHECK.said(39, "NONE: not within 60, no YARD, out of bounds.");
        for (int n : new int[] {Integer.MIN_VALUE, -1, 0, 1000, 1001, Integer.MAX_VALUE}) {
            CHECK.due("of " + n, x.saves(n), -1);
        }
        CHECK.due("1", x.saves(1), 0);
        x.days(60);
        CHECK.due("999 there are", x.saves(999), 0);
        CHECK.due("no more than 999", x.saves(1000), -1);
        CHECK.due("no yard", new WeatherMarbles().saves(1), -1);
        CHECK.due("no yard", new WeatherMarbles().saves(999), -1);
    }

    private static void hands() {
        CHECK.said(0, "HANDS of a BOY: MARBLES (bits).");
        CHECK.said(40, "HANDS, as bits.");
        for (int bits = 0; bits < 64; bits++) {
            StringBuilder text = new StringBuilder("b;b");
            for (int m = 0; m < 6; m++) {
                text.append(";mo").append(bits >> m & 1);
            }
            WeatherMarbles x = Check.yard(text.toString());
            CHECK.due("of the last boy", x.hands(1), bits);
            CHECK.due("of the first boy", x.hands(0), 63 - bits);
        }
        WeatherMarbles y = lane("b;b;m;m;mo1");
        y.swallow(0);
        CHECK.due("a swallowed one is his", y.hands(0), 3);
        y.play(1, 8, 2, 1);
        CHECK.due("a drained one is not", y.hands(0), 1);
        CHECK.said(40, "NONE: no such BOY.");
        for (int far : NEVER) {
            CHECK.due("boy " + far, y.hands(far), -1);
        }
        CHECK.due("boy 2 of two", y.hands(2), -1);
        CHECK.due("boy 5 of five", Check.yard("b;b;b;b;b;m").hands(5), -1);
        CHECK.due("boy 4 of five", Check.yard("b;b;b;b;b;m").hands(4), 0);
        CHECK.due("no yard", new WeatherMarbles().hands(0), -1);
    }

    private static void richest() {
        CHECK.said(0, "RICHEST: the BOY with the most MARBLES;");
        CHECK.said(0, "(of several the lowest, both).");
        CHECK.said(41, "RICHEST (0),");
        CHECK.due("the last", Check.yard("b;b;b;b;b;mo4").most(0), 4);
        CHECK.due("all alike: the lowest", Check.yard("b;b;b;m;mo1;mo2").most(0), 0);
        CHECK.due("two of three alike", Check.yard("b;b;b;mo2;mo1;mo2;mo1;mo0").most(0), 1);
        CHECK.due("by how many, not by size", Check.yard("b;b;ms9;mo1s1;mo1s1").most(0), 1);
        WeatherMarbles x = lane("b;b;m;mo1;mo1");
        x.swallow(1);
        CHECK.due("a swallowed one is his", x.most(0), 1);
        x.play(0, 1, 2, 8);
        CHECK.due("a drained one is not", x.most(0), 0);
        WeatherMarbles gone = lane("b;b;m;mo1");
        gone.play(0, 8, 1, 8);
        CHECK.due("none at all: the lowest", gone.most(0), 0);
    }

    private static void strongest() {
        CHECK.said(0, "STRONGEST: the MARBLE with the most SIZE that is not DRAINED (of several the lowest, both).");
        CHECK.said(41, "STRONGEST (1; NONE: all DRAINED),");
        CHECK.due("the last", Check.yard("b;ms1;ms1;ms1;ms1;ms1;ms2").most(1), 5);
        CHECK.due("of several the lowest", Check.yard("b;ms1;ms2;ms2").most(1), 1);
        CHECK.due("all alike", Check.yard("b;m;m;m;m;m;m").most(1), 0);
        WeatherMarbles x = lane("b;b;mo0s3;mo1s9;mo0s4;mo1s1");
        x.chip(1);
        CHECK.due("its size, chipped or not", x.most(1), 1);
        x.swallow(1);
        CHECK.due("swallowed or not", x.most(1), 1);
        x.undo();
        x.play(0, 1, 1, 8);
        CHECK.due("drained", x.most(1), 2);
        x.play(2, 8, 3, 1);
        CHECK.due("drained, too", x.most(1), 0);
        x.play(0, 8, 3, 1);
        CHECK.due("one is left", x.most(1), 3);
        WeatherMarbles gone = lane("b;b;m;mo1");
        gone.play(0, 8, 1, 8);
        CHECK.due("all drained", gone.most(1), -1);
        gone.undo();
        gone.play(0, 8, 1, 1);
        CHECK.due("all but one", gone.most(1), 1);
    }

    private static void mostRefused() {
        CHECK.said(41, "FAIR (2, bits),");
        CHECK.due("fair", Check.yard("bp9;m").most(2), 511);
        CHECK.said(41, "NONE: no YARD, no such what.");
        WeatherMarbles x = Check.yard("b;m");
        for (int what : NEVER) {
            CHECK.due("what " + what, x.most(what), -1);
        }
        CHECK.due("what 4", x.most(4), -1);
        CHECK.due("what 3", x.most(3), 0);
        for (int what = -1; what <= 4; what++) {
            CHECK.due("no yard", new WeatherMarbles().most(what), -1);
        }
    }

    private static void counts() {
        CHECK.said(44, "HIDDEN for others.");
        WeatherMarbles x = Check.yard("b;m");
        for (int what : NEVER) {
            CHECK.due("what " + what, x.count(what), HIDDEN);
            CHECK.due("no yard, what " + what, new WeatherMarbles().count(what), HIDDEN);
        }
        CHECK.said(44, "5 the LAW that holds (NONE),");
        CHECK.due("none", x.count(5), -1);
        CHECK.due("none", new WeatherMarbles().count(5), -1);
        for (int what = 0; what <= 12; what++) {
            CHECK.due("0 without a yard: " + what, new WeatherMarbles().count(what), what == 5 ? -1 : 0);
        }
    }

    /** All of them at their most. */
    private static void countsFull() {
        CHECK.said(44, "0 MARBLES, 1 BOYS, 2 FARMS, 3 LAWS, 4 bytes of the TAPE,");
        WeatherMarbles x = Check.yard("sl5r3;b;b;b;b;b;m;mo1;m;mo1;m;mo1;f;f;f;f;f;f");
        for (int i = 0; i < 4; i++) {
            Check.holds(x, "y:p");
        }
        Check.feed(x, " ".repeat(240));
        int[] most = {6, 5, 6, 4, 240};
        for (int what = 0; what < 5; what++) {
            CHECK.due("count " + what, x.count(what), most[what]);
        }
        CHECK.said(44, "5 the LAW that holds (NONE), 6 the DAY, 7 CONTENT ones (bits), 8 DRAINED ones (bits),");
        CHECK.due("the law that holds", x.count(5), 3);
        CHECK.due("all content", x.count(7), 63);
        CHECK.due("none drained", x.count(8), 0);
        x.play(0, 8, 1, 8);
        x.play(2, 8, 3, 8);
        CHECK.due("four drained", x.count(8), 15);
        x.play(4, 8, 5, 8);
        CHECK.due("all drained", x.count(8), 63);
        CHECK.due("none content", x.count(7), 0);
        CHECK.said(44, "9 SPILLS, 10 SEEN, 11 how long the LOG is, 12 ACTS that can be UNDONE.");
        x.spills(9);
        for (int i = 0; i < 11; i++) {
            x.seen(0, 0, false);
        }
        for (int i = 0; i < 167; i++) {
            x.days(60);
        }
        x.days(39);
        int[] last = {9999, 0, 63, 9, 10, 60, 40};
        for (int what = 6; what <= 12; what++) {
            CHECK.due("count " + what, x.count(what), last[what - 6]);
        }
    }
}
