/** Terms, part 3, and promises 22 to 24, 31, 32, 36 and CHAMPION: the bounds of flicks and games that are only asked. */
public final class EdgeLaneTest {
    private static final Check CHECK = new Check();
    private static final int HIDDEN = -1000000;
    // By the law y:p a marble comes to the cell of its power; the hole is 5, the drain 8.
    // Marbles: 0 of boy 0, 1 and 2 of boy 1, 3 swallowed of boy 2, 4 drained of late, 5 of boy 2.
    private static final String YARD = "sl5r3;b;bp1;bp2;mo0s4;mo1s3;mo1s2;mo2s9;mo0s1;mo2s9";
    private static final int[] NO_MARBLES = {Integer.MIN_VALUE, -2, -1, 6, 7, Integer.MAX_VALUE};
    private static final int[] NO_BOYS = {Integer.MIN_VALUE, -2, -1, 3, 5, Integer.MAX_VALUE};
    private static final int[] NO_POWERS = {Integer.MIN_VALUE, -1, 0, 10, 11, Integer.MAX_VALUE};

    public static void main(String[] args) {
        lands();
        landsRefused();
        aims();
        aimsRefused();
        wins();
        winsRefused();
        rivals();
        rivalsRefused();
        rests();
        restsOfSome();
        restsRefused();
        odds();
        oddsOfAll();
        oddsRefused();
        champions();
        championsGreatest();
        championsNone();
        CHECK.finish();
    }

    private static WeatherMarbles yard() {
        WeatherMarbles x = Check.yard(YARD);
        Check.holds(x, "y:p");
        x.play(4, 8, 1, 1);
        x.swallow(3);
        return x;
    }

    /** Two boys with a marble each, and cells by this law. */
    private static WeatherMarbles pair(String law) {
        WeatherMarbles x = Check.yard("sl5r3;bk1;bk2;mo0s4;mo1s7");
        Check.holds(x, law);
        return x;
    }

    private static void lands() {
        CHECK.said(0, "LANDS: the CELL of a FLICK by any BOY of any MARBLE (DRAINED ones, too).");
        CHECK.said(22, "LANDS.");
        WeatherMarbles x = yard();
        for (int b = 0; b < 3; b++) {
            for (int m = 0; m < 6; m++) {
                for (int power = 1; power <= 9; power++) {
                    CHECK.due("boy " + b + ", marble " + m, x.lands(b, m, power), power);
                }
            }
        }
        x.law(-1);
        CHECK.due("one in the drain has its cell", x.lands(0, 0, 9), 19);
        CHECK.due("a drained marble", x.lands(1, 4, 1), 4);
        CHECK.due("a swallowed marble", x.lands(0, 3, 1), 1);
        CHECK.due("nothing happens", x.count(8), 16);
    }

    private static void landsRefused() {
        CHECK.said(22, "NONE: no such ones, out of bounds.");
        CHECK.said(0, "A FLICK of a MARBLE by a BOY with POWER (1 .. 9)");
        WeatherMarbles x = yard();
        for (int b : NO_BOYS) {
            CHECK.due("boy " + b, x.lands(b, 0, 5), -1);
        }
        for (int m : NO_MARBLES) {
            CHECK.due("marble " + m, x.lands(0, m, 5), -1);
        }
        for (int power : NO_POWERS) {
            CHECK.due("power " + power, x.lands(0, 0, power), -1);
        }
        CHECK.due("the last of each", x.lands(2, 5, 9), 9);
        CHECK.due("no yard", new WeatherMarbles().lands(0, 0, 5), -1);
        CHECK.due("no status", x.status(0) + x.status(1), 0);
    }

    private static void aims() {
        CHECK.said(0, "AIM of a BOY with a MARBLE (anybody's): the POWER by which it comes nearest to the HOLE and not into the DRAIN (of several the least).");
        CHECK.said(23, "AIM.");
        CHECK.due("the hole itself", pair("y:p").aim(0, 0), 5);
        CHECK.due("anybody's", pair("y:p").aim(0, 1), 5);
        CHECK.due("all alike: the least", pair("y:3").aim(0, 0), 1);
        CHECK.due("4 and 6 as near: the least", pair("y:p<5?9;y:p=5?6;y:p=6?4;y:9").aim(0, 0), 5);
        CHECK.due("6 and 4 as near: the least", pair("y:p<5?9;y:p=5?4;y:p=6?6;y:9").aim(0, 0), 5);
        CHECK.due("7 is ahead of the drain", pair("y:p=8?7;y:9").aim(0, 0), 8);
        CHECK.due("8 is the drain, 0 is far", pair("y:p=9?0;y:8").aim(0, 0), 9);
        CHECK.due("nearer, but into the drain", pair("y:p=1?8;y:1").aim(0, 0), 2);
        CHECK.due("the first power", pair("y:6-p").aim(0, 0), 1);
        CHECK.due("the last power", pair("y:p/2").aim(0, 0), 8);
        CHECK.due("9 alone", pair("y:p=9?5;y:4").aim(0, 0), 9);
        CHECK.due("as far as he can", Check.yard("sl30;b;m").aim(0, 0), 9);
        WeatherMarbles x = yard();
        CHECK.due("a drained one", x.aim(2, 4), 5);
        CHECK.due("a swallowed one", x.aim(0, 3), 5);
    }

    private static void aimsRefused() {
        CHECK.said(23, "NONE: always into the DRAIN, no such ones.");
        CHECK.due("at the drain always", pair("y:8").aim(0, 0), -1);
        CHECK.due("far into it", pair("y:60").aim(0, 0), -1);
        CHECK.due("one cell ahead of it", pair("y:7").aim(0, 0), 1);
        CHECK.due("by the usual: 4 .. and more", Check.yard("sl3r1;bk4;ms1").aim(0, 0), -1);
        CHECK.due("by the usual: 3 .. and more", Check.yard("sl3r1;bk2;ms1").aim(0, 0), 1);
        WeatherMarbles x = yard();
        for (int b : NO_BOYS) {
            CHECK.due("boy " + b, x.aim(b, 0), -1);
        }
        for (int m : NO_MARBLES) {
            CHECK.due("marble " + m, x.aim(0, m), -1);
        }
        CHECK.due("the last of each", x.aim(2, 5), 5);
        CHECK.due("no yard", new WeatherMarbles().aim(0, 0), -1);
    }

    private static void wins() {
        CHECK.said(0, "WINS of two BOYS with MARBLES and POWERS: who would have both (1 the first, 2 the second, 0 neither).");
        CHECK.said(24, "WINS of the OWNERS of two MARBLES.");
        CHECK.said(0, "(Apart, from as it is now.)");
        for (int power = 1; power <= 9; power++) {
            for (int against = 1; against <= 9; against++) {
                WeatherMarbles x = pair("y:p");
                int told = x.wins(0, power, 1, against);
                CHECK.due("nothing happens", x.count(12) + x.count(8), 0);
                CHECK.due(power + " against " + against, told, x.play(0, power, 1, against));
                x.undo();
                CHECK.due("the other way round", x.wins(1, against, 0, power), told == 0 ? 0 : 3 - told);
            }
        }
        WeatherMarbles x = yard();
        x.give(0, 2);
        CHECK.due("by the owners now", x.wins(0, 5, 5, 4), HIDDEN);
    }

    private static void winsRefused() {
        CHECK.said(24, "HIDDEN: as for a GAME.");
        WeatherMarbles x = yard();
        for (int m : NO_MARBLES) {
            CHECK.due("no marble " + m, x.wins(m, 1, 0, 1), HIDDEN);
            CHECK.due("no other " + m, x.wins(0, 1, m, 1), HIDDEN);
        }
        for (int power : NO_POWERS) {
            CHECK.due("power " + power, x.wins(0, power, 1, 1), HIDDEN);
            CHECK.due("against " + power, x.wins(0, 1, 1, power), HIDDEN);
        }
        for (int m = 0; m < 6; m++) {
            CHECK.due("alike", x.wins(m, 1, m, 1), HIDDEN);
        }
        for (int[] two : new int[][] {{4, 1}, {1, 4}, {3, 1}, {1, 3}, {3, 4}, {1, 2}, {5, 3}}) {
            CHECK.due("drained, swallowed, his own: " + two[0] + " " + two[1], x.wins(two[0], 1, two[1], 1), HIDDEN);
        }
        CHECK.due("no yard", new WeatherMarbles().wins(0, 1, 1, 1), HIDDEN);
        CHECK.due("the last ones", x.wins(5, 9, 2, 9), 0);
        CHECK.due("no status", Snapshot.status(x).equals("0 0 0 0 0 "), true);
    }

    private static void rivals() {
        CHECK.said(0, "RIVALS of two BOYS with a MARBLE each: x, y POWERS (1 .. 9):");
        CHECK.said(0, "what one has: SIZE of the other MARBLE, if he wins it, less SIZE of his own, if he loses it or it is DRAINED.");
        CHECK.said(31, "RIVALS: what the OWNER of the first has (0), of the second (1).");
        WeatherMarbles x = pair("y:p");
        for (int chips = 0; chips < 2; chips++) {
            for (int power = 1; power <= 9; power++) {
                for (int against = 1; against <= 9; against++) {
                    int winner = x.wins(0, power, 1, against);
                    int first = winner == 1 ? 7 : winner == 2 || power >= 8 ? -4 : 0;
                    int second = winner == 2 ? 4 : winner == 1 || against >= 8 ? -7 : 0;
                    CHECK.due(power + " against " + against, x.game(0, power, 1, against, 0), first);
                    CHECK.due(power + " against " + against, x.game(0, power, 1, against, 1), second);
                    CHECK.due("the other way round", x.game(1, against, 0, power, 0), second);
                }
            }
            x.chip(0);
            x.chip(1);
        }
        WeatherMarbles sizes = Check.yard("sl5r3;b;b;mo0s1;mo1s9");
        Check.holds(sizes, "y:p");
        CHECK.due("the most to win", sizes.game(0, 5, 1, 4, 0), 9);
        CHECK.due("the most to lose", sizes.game(0, 5, 1, 4, 1), -9);
        CHECK.due("the least to lose", sizes.game(0, 8, 1, 4, 0), -1);
        CHECK.due("the other gains nothing by that", sizes.game(0, 8, 1, 4, 1), 0);
    }

    private static void rivalsRefused() {
        CHECK.said(31, "HIDDEN: as for a GAME, no such what.");
        WeatherMarbles x = yard();
        for (int what : new int[] {Integer.MIN_VALUE, -2, -1, 2, 3, Integer.MAX_VALUE}) {
            CHECK.due("what " + what, x.game(0, 5, 1, 5, what), HIDDEN);
        }
        for (int what = 0; what < 2; what++) {
            for (int m : NO_MARBLES) {
                CHECK.due("no marble " + m, x.game(m, 1, 0, 1, what), HIDDEN);
                CHECK.due("no other " + m, x.game(0, 1, m, 1, what), HIDDEN);
            }
            for (int power : NO_POWERS) {
                CHECK.due("power " + power, x.game(0, power, 1, 1, what), HIDDEN);
                CHECK.due("against " + power, x.game(0, 1, 1, power, what), HIDDEN);
            }
            for (int[] two : new int[][] {{0, 0}, {4, 1}, {1, 4}, {3, 1}, {1, 3}, {3, 4}, {1, 2}, {5, 3}}) {
                CHECK.due("as for a game: " + two[0] + " " + two[1], x.game(two[0], 1, two[1], 1, what), HIDDEN);
            }
            CHECK.due("no yard", new WeatherMarbles().game(0, 1, 1, 1, what), HIDDEN);
        }
        CHECK.due("the last that is taken", x.game(5, 9, 2, 9, 1), -2);
    }

    /** Counts by the answers of game itself which pairs of powers neither would change. */
    private static void dueRests(String what, WeatherMarbles x) {
        int found = 0;
        for (int a = 1; a <= 9; a++) {
            for (int b = 1; b <= 9; b++) {
                boolean rests = true;
                for (int c = 1; c <= 9; c++) {
                    rests &= x.game(0, c, 1, b, 0) <= x.game(0, a, 1, b, 0);
                    rests &= x.game(0, a, 1, c, 1) <= x.game(0, a, 1, b, 1);
                }
                if (rests) {
                    CHECK.due(what + ": rests " + found, x.rests(0, 1, found), 10 * a + b);
                    found++;
                }
            }
        }
        CHECK.due(what + ": how many", x.rests(0, 1, -1), found);
        CHECK.due(what + ": no more", x.rests(0, 1, found), -1);
    }

    private static void rests() {
        CHECK.said(0, "RESTS: 10 times x and y by which neither has more by another POWER of his own: how many, the i-th (rising).");
        CHECK.said(32, "RESTS: how many (i NONE), the i-th.");
        dueRests("the hole", pair("y:p"));
        dueRests("all alike", pair("y:3"));
        dueRests("all gone", pair("y:8"));
        dueRests("all at 0", pair("y:0"));
        dueRests("the first at 0", pair("y:k=1?0;y:p"));
        dueRests("the second at 0", pair("y:k=2?0;y:p"));
        dueRests("the second is better", pair("y:k"));
        dueRests("gone or lost", pair("y:p<5?k;y:8"));
        dueRests("the first is always gone", pair("y:k=1?9;y:p"));
        dueRests("the second is always gone", pair("y:k=2?9;y:p"));
        dueRests("near or far", pair("y:p>4?10-p;y:p*2"));
        dueRests("none can be sure", pair("y:k=1?p;y:p+1"));
        CHECK.due("81 at most", pair("y:3").rests(0, 1, -1), 81);
        CHECK.due("the first of all", pair("y:3").rests(0, 1, 0), 11);
        CHECK.due("the last of all", pair("y:3").rests(0, 1, 80), 99);
    }

    private static void restsOfSome() {
        for (int k = 0; k < 60; k++) {
            WeatherMarbles x = Check.yard("sl" + (3 + k % 8) + "r" + (1 + k % 4) + ";bk" + (1 + k % 9) + ";bk"
                + (1 + k * 5 % 9) + ";mo0s" + (1 + k * 7 % 9) + ";mo1s" + (1 + k * 2 % 9));
            dueRests("yard " + k, x);
        }
    }

    private static void restsRefused() {
        CHECK.said(32, "NONE: no such one, as for a GAME.");
        WeatherMarbles x = yard();
        for (int i : new int[] {-1, 0}) {
            for (int m : NO_MARBLES) {
                CHECK.due("no marble " + m, x.rests(m, 0, i), -1);
                CHECK.due("no other " + m, x.rests(0, m, i), -1);
            }
            for (int[] two : new int[][] {{0, 0}, {4, 1}, {1, 4}, {3, 1}, {1, 3}, {3, 4}, {1, 2}, {5, 3}}) {
                CHECK.due("as for a game: " + two[0] + " " + two[1], x.rests(two[0], two[1], i), -1);
            }
            CHECK.due("no yard", new WeatherMarbles().rests(0, 1, i), -1);
        }
        CHECK.due("one", x.rests(0, 1, -1), 1);
        CHECK.due("the last", x.rests(0, 1, 0), 55);
        for (int i : new int[] {Integer.MIN_VALUE, -3, -2, 1, 81, Integer.MAX_VALUE}) {
            CHECK.due("the " + i, x.rests(0, 1, i), -1);
        }
    }

    private static void odds() {
        CHECK.said(0, "ODDS of a FLICK of two BOYS with MARBLES and POWERS for a chance (0 .. 100):");
        CHECK.said(0, "each by chance goes wrong, half of it one CELL short (0 at least), the rest one CELL far:");
        CHECK.said(36, "ODDS.");
        WeatherMarbles x = pair("y:p");
        CHECK.due("sure", x.odds(0, 5, 1, 4, 0), 1000000000);
        CHECK.due("never", x.odds(0, 4, 1, 5, 0), 0);
        CHECK.due("as near", x.odds(0, 4, 1, 6, 0), 0);
        CHECK.due("all wrong: 4 or 6 against 3 or 5", x.odds(0, 5, 1, 4, 100), 500000000);
        CHECK.due("all wrong: 3 or 5 against 4 or 6", x.odds(0, 4, 1, 5, 100), 500000000);
        CHECK.due("7 goes far into the drain", x.odds(0, 7, 1, 2, 100), 500000000);
        CHECK.due("the other goes far into the drain", x.odds(0, 4, 1, 7, 100), 250000000);
        CHECK.due("8 comes short of the drain", x.odds(0, 8, 1, 1, 100), 500000000);
        CHECK.due("9 does not", x.odds(0, 9, 1, 1, 100), 0);
        WeatherMarbles zero = pair("y:k=1?1;y:0");
        // 0, 1, 2 against 0, 0, 1: the first wins with 1 against 0 and with 2 against all
        CHECK.due("0 at least", zero.odds(0, 1, 1, 1, 10), 905000000);
        CHECK.due("0 at least, all wrong", zero.odds(0, 1, 1, 1, 100), 500000000);
        CHECK.due("0 against 0", pair("y:0").odds(0, 1, 1, 1, 100), 250000000);
        CHECK.due("far behind 60", pair("y:60").odds(0, 1, 1, 1, 100), 0);
    }

    /** By the document's words alone: parts of 10 to the 9, cut. */
    private static long oddsOf(int hole, int drain, int first, int second, int chance) {
        long wins = 0;
        long[] parts = parts(1000000000L, chance);
        for (int i = 0; i < 3; i++) {
            long[] others = parts(parts[i], chance);
            for (int j = 0; j < 3; j++) {
                int a = Math.max(0, first + i - 1);
                int b = Math.max(0, second + j - 1);
                boolean won = a < drain && b < drain && Math.abs(a - hole) < Math.abs(b - hole);
                wins += won ? others[j] : 0;
            }
        }
        return wins;
    }

    /** Short, right, far. */
    private static long[] parts(long whole, int chance) {
        long wrong = whole * chance / 100;
        return new long[] {wrong / 2, whole - wrong, wrong - wrong / 2};
    }

    private static void oddsOfAll() {
        CHECK.said(0, "of 10 to the 9 parts those by which the first one wins (100ths of each part, cut; half of those cut is short).");
        for (int hole : new int[] {3, 5}) {
            for (int far : new int[] {1, 3, 9}) {
                WeatherMarbles x = Check.yard("sl" + hole + "r" + far + ";b;b;mo0;mo1");
                Check.holds(x, "y:p-1");
                for (int chance = 0; chance <= 100; chance += chance < 4 || chance > 96 ? 1 : 7) {
                    oddsOfPowers(x, hole, hole + far, chance);
                }
            }
        }
    }

    private static void oddsOfPowers(WeatherMarbles x, int hole, int drain, int chance) {
        for (int power = 1; power <= 9; power++) {
            for (int against = 1; against <= 9; against++) {
                CHECK.due(power + " against " + against + " by " + chance, x.odds(0, power, 1, against, chance),
                    oddsOf(hole, drain, power - 1, against - 1, chance));
            }
        }
    }

    private static void oddsRefused() {
        CHECK.said(36, "NONE: as for a GAME, out of bounds.");
        WeatherMarbles x = yard();
        for (int chance : new int[] {Integer.MIN_VALUE, -2, -1, 101, 102, Integer.MAX_VALUE}) {
            CHECK.due("chance " + chance, x.odds(0, 5, 1, 4, chance), -1);
        }
        for (int m : NO_MARBLES) {
            CHECK.due("no marble " + m, x.odds(m, 1, 0, 1, 0), -1);
            CHECK.due("no other " + m, x.odds(0, 1, m, 1, 100), -1);
        }
        for (int power : NO_POWERS) {
            CHECK.due("power " + power, x.odds(0, power, 1, 1, 0), -1);
            CHECK.due("against " + power, x.odds(0, 1, 1, power, 0), -1);
        }
        for (int[] two : new int[][] {{0, 0}, {4, 1}, {1, 4}, {3, 1}, {1, 3}, {3, 4}, {1, 2}, {5, 3}}) {
            CHECK.due("as for a game: " + two[0] + " " + two[1], x.odds(two[0], 1, two[1], 1, 50), -1);
        }
        CHECK.due("no yard", new WeatherMarbles().odds(0, 1, 1, 1, 0), -1);
        CHECK.due("chance 0", x.odds(0, 5, 1, 4, 0), 1000000000);
        CHECK.due("chance 100", x.odds(0, 5, 1, 4, 100), 500000000);
    }

    private static void champions() {
        CHECK.said(0, "CHAMPION: the BOY who by AIM of his own greatest MARBLE (SIZE; of several the lowest; not SWALLOWED) comes nearest to the HOLE (of several the lowest).");
        WeatherMarbles x = Check.yard("sl5r3;bk1;bk2;bk3;mo0s2;mo1s2;mo2s2;mo2s3;mo2s3");
        Check.holds(x, "y:k");
        CHECK.due("3 is nearest", x.most(3), 2);
        Check.holds(x, "y:3");
        CHECK.due("of several the lowest", x.most(3), 0);
        Check.holds(x, "y:s=3?4;y:3");
        CHECK.due("by his greatest", x.most(3), 2);
        x.swallow(3);
        CHECK.due("by the other of that size", x.most(3), 2);
        x.swallow(4);
        CHECK.due("by one of 2", x.most(3), 0);
        x.undo();
        x.undo();
        Check.holds(x, "y:c=1?5;y:k");
        x.chip(4);
        CHECK.due("of several the lowest: 3, not in the hole", x.most(3), 2);
        x.chip(0);
        CHECK.due("boy 0 in the hole", x.most(3), 0);
        x.swallow(3);
        CHECK.due("as near as boy 2: the lowest", x.most(3), 0);
        x.swallow(0);
        CHECK.due("boy 2 in the hole", x.most(3), 2);
        WeatherMarbles later = Check.yard("sl5r3;b;b;mo1");
        CHECK.due("boy 0 has none", later.most(3), 1);
    }

    /** Boy 0 comes to 4; boy 1 to 1, and into the hole with a chipped one, if that is his greatest. */
    private static void championsGreatest() {
        CHECK.said(0, "his own greatest MARBLE (SIZE; of several the lowest; not SWALLOWED)");
        for (int chipped = 1; chipped <= 4; chipped++) {
            WeatherMarbles x = Check.yard("sl5r3;bk4;bk1;mo0s2;mo1s3;mo1s9;mo1s9;mo1s8");
            Check.holds(x, "y:c=1?5;y:k");
            CHECK.due("none chipped", x.most(3), 0);
            x.chip(chipped);
            CHECK.due("marble " + chipped + " chipped", x.most(3), chipped == 2 ? 1 : 0);
            x.swallow(2);
            CHECK.due("the first of 9 swallowed", x.most(3), chipped == 3 ? 1 : 0);
            x.swallow(3);
            CHECK.due("both of 9 swallowed", x.most(3), chipped == 4 ? 1 : 0);
            x.swallow(4);
            CHECK.due("that of 8, too", x.most(3), chipped == 1 ? 1 : 0);
        }
    }

    private static void championsNone() {
        CHECK.said(41, "CHAMPION (3; NONE: none could).");
        CHECK.due("always into the drain", pair("y:8").most(3), -1);
        CHECK.due("one cell ahead", pair("y:7").most(3), 0);
        CHECK.due("the first into the drain", pair("y:k=1?8;y:0").most(3), 1);
        WeatherMarbles x = pair("y:p");
        x.swallow(0);
        CHECK.due("one is left", x.most(3), 1);
        x.swallow(1);
        CHECK.due("all swallowed", x.most(3), -1);
        x.undo();
        x.undo();
        x.play(0, 8, 1, 1);
        CHECK.due("one is left", x.most(3), 1);
        x.undo();
        x.play(0, 9, 1, 8);
        CHECK.due("all drained", x.most(3), -1);
        WeatherMarbles great = Check.yard("sl5r3;b;b;mo0s2;mo0s9;mo1s5");
        Check.holds(great, "y:s=9?8;y:s=2?5;y:1");
        CHECK.due("his greatest is always drained, whatever the others do", great.most(3), 1);
        great.swallow(1);
        CHECK.due("his greatest is another one then", great.most(3), 0);
    }
}
