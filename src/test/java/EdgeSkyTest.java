/** Terms, parts 2 and 3, and promises 25 to 30 and FAIR: STRENGTH, WEATHER, ARRANGE, SEEN, WHO, LOOK at their bounds. */
public final class EdgeSkyTest {
    private static final Check CHECK = new Check();
    private static final int HIDDEN = -1000000;
    private static final int[] NO_PLACES = {Integer.MIN_VALUE, -2, -1, 10, 11, Integer.MAX_VALUE};
    private static final int[] NO_KINDS = {Integer.MIN_VALUE, -2, -1, 6, 7, Integer.MAX_VALUE};
    private static final int[] NO_WHATS = {Integer.MIN_VALUE, -2, -1, 2, 3, Integer.MAX_VALUE};

    public static void main(String[] args) {
        strengths();
        strengthsTogether();
        strengthsRefused();
        weather();
        weatherRefused();
        content();
        fair();
        arrangeRefused();
        arrangeNone();
        arrangeFewest();
        arrangeRows();
        arrangeFixed();
        seenTen();
        seenRefused();
        who();
        whoOfAll();
        whoRefused();
        look();
        lookOfAll();
        lookRefused();
        CHECK.finish();
    }

    /** By the law y:p a marble comes to the cell of its power; the hole is 5, the drain 8. */
    private static WeatherMarbles lane(String rest) {
        WeatherMarbles x = Check.yard("sl5r3;" + rest);
        Check.holds(x, "y:p");
        return x;
    }

    private static void strengths() {
        CHECK.said(0, "STRENGTH of a KIND at a PLACE: SIZE, less 2, if it is CHIPPED (0 at least),");
        CHECK.said(0, "SPELL of a PLACE and a KIND: STRENGTH.");
        CHECK.said(26, "SPELL.");
        for (int size = 1; size <= 9; size++) {
            WeatherMarbles x = Check.yard("bp9;mw5s" + size);
            CHECK.due("size " + size, x.spell(9, 5), size);
            x.chip(0);
            CHECK.due("chipped " + size, x.spell(9, 5), size == 1 ? 0 : size - 2);
            CHECK.due("its weather", x.weather(9), size <= 2 ? -1 : 5);
        }
    }

    private static void strengthsTogether() {
        CHECK.said(0, "of all MARBLES of the KIND that BOYS of that PLACE have, together (SWALLOWED ones, too).");
        WeatherMarbles x = lane("bp3;bp3;bp4;mo0w2s9;mo1w2s9;mo0w2s9;mo1w2s9;mo0w2s9;mo1w2s9");
        CHECK.due("all six", x.spell(3, 2), 54);
        for (int place = 0; place < 10; place++) {
            for (int kind = 0; kind < 6; kind++) {
                CHECK.due(place + " " + kind, x.spell(place, kind), place == 3 && kind == 2 ? 54 : 0);
            }
        }
        x.swallow(0);
        CHECK.due("a swallowed one, too", x.spell(3, 2), 54);
        x.chip(0);
        CHECK.due("chipped and swallowed", x.spell(3, 2), 52);
        x.give(2, 2);
        CHECK.due("one of another place", x.spell(3, 2) * 100 + x.spell(4, 2), 4309);
        x.play(4, 8, 1, 9);
        CHECK.due("drained ones not", x.spell(3, 2), 25);
        WeatherMarbles small = Check.yard("b;ms1;ms1;ms3");
        small.chip(0);
        small.chip(1);
        CHECK.due("0 at least each, not together", small.spell(0, 0), 3);
    }

    private static void strengthsRefused() {
        CHECK.said(26, "NONE: no YARD, no such PLACE, no such KIND.");
        WeatherMarbles x = Check.yard("bp9;bp0;mo0w5s9;mo1w0s8");
        for (int place : NO_PLACES) {
            CHECK.due("place " + place, x.spell(place, 0), -1);
        }
        for (int kind : NO_KINDS) {
            CHECK.due("kind " + kind, x.spell(0, kind), -1);
        }
        CHECK.due("the first", x.spell(0, 0), 8);
        CHECK.due("the last", x.spell(9, 5), 9);
        CHECK.due("no yard", new WeatherMarbles().spell(0, 0), -1);
    }

    private static void weather() {
        CHECK.said(0, "WEATHER of a PLACE: the KIND with the most STRENGTH (of several the lowest; none: all 0).");
        CHECK.said(25, "WEATHER (NONE: none).");
        for (int kind = 0; kind < 6; kind++) {
            for (int other = 0; other < 6; other++) {
                for (int size = 3; size <= 5; size++) {
                    WeatherMarbles x = Check.yard("bp7;mw" + kind + "s4;mw" + other + "s" + size);
                    int due = kind == other || size < 4 ? kind : size > 4 ? other : Math.min(kind, other);
                    CHECK.due(kind + " of 4, " + other + " of " + size, x.weather(7), due);
                    CHECK.due("elsewhere", x.weather(6), -1);
                }
            }
        }
        WeatherMarbles x = Check.yard("b;bp1;ms1;mo1s2w5");
        CHECK.due("1 is enough", x.weather(0), 0);
        x.chip(0);
        x.chip(1);
        CHECK.due("all 0", x.weather(0), -1);
        CHECK.due("all 0 of kind 5", x.weather(1), -1);
        CHECK.due("nobody there", x.weather(9), -1);
    }

    private static void weatherRefused() {
        CHECK.said(25, "HIDDEN: no YARD, no such PLACE.");
        WeatherMarbles x = Check.yard("bp9;bp0;mo0w5s9;mo1w0s8");
        for (int place : NO_PLACES) {
            CHECK.due("place " + place, x.weather(place), HIDDEN);
            CHECK.due("no yard, place " + place, new WeatherMarbles().weather(place), HIDDEN);
        }
        CHECK.due("the first", x.weather(0), 0);
        CHECK.due("the last", x.weather(9), 5);
        for (int place = 0; place < 10; place++) {
            CHECK.due("no yard", new WeatherMarbles().weather(place), HIDDEN);
        }
    }

    private static void content() {
        CHECK.said(0, "A FARM is CONTENT, if the WEATHER of its PLACE is what it WANTS.");
        for (int kind = 0; kind < 6; kind++) {
            for (int wants = 0; wants < 6; wants++) {
                WeatherMarbles x = Check.yard("bp9;ms2w" + kind + ";fp9w" + wants + ";fp8w" + wants);
                CHECK.due(wants + " by " + kind, x.farm(0, 3), kind == wants ? 1 : 0);
                CHECK.due("elsewhere", x.farm(1, 3), 0);
                CHECK.due("bits", x.count(7), kind == wants ? 1 : 0);
                x.chip(0);
                CHECK.due("no weather is never what it wants", x.farm(0, 3), 0);
            }
        }
        WeatherMarbles tie = Check.yard("b;mw3;mw2;fw3;fw2");
        CHECK.due("of several the lowest", tie.count(7), 2);
    }

    private static void fair() {
        CHECK.said(0, "FAIR: PLACES (bits 0 .. 9) without WEATHER.");
        for (int place = 0; place < 10; place++) {
            WeatherMarbles x = Check.yard("bp" + place + ";bp" + (place + 1) % 10 + ";ms2");
            CHECK.due("all but " + place, x.most(2), 1023 ^ 1 << place);
            x.give(0, 1);
            CHECK.due("all but the next", x.most(2), 1023 ^ 1 << (place + 1) % 10);
            x.chip(0);
            CHECK.due("all: no strength", x.most(2), 1023);
        }
        CHECK.due("five have it", Check.yard("b;bp2;bp4;bp6;bp9;m;mo1;mo2;mo3;mo4").most(2), 1023 - 1 - 4 - 16 - 64 - 512);
    }

    private static void dueArrange(String what, WeatherMarbles x, int changes, int row) {
        CHECK.due("how many: " + what, x.arrange(0), changes);
        String before = Snapshot.of(x);
        CHECK.due("the row: " + what, x.arrange(1), row);
        CHECK.due("apart: " + what, Snapshot.of(x).equals(before), true);
    }

    private static void arrangeRefused() {
        CHECK.said(27, "ARRANGE: how many (0), the row (1).");
        CHECK.said(27, "NONE: there is none, no YARD, no such what.");
        WeatherMarbles x = Check.yard("b;b;mo1");
        for (int what : NO_WHATS) {
            CHECK.due("what " + what, x.arrange(what), -1);
        }
        CHECK.due("0", x.arrange(0), 0);
        CHECK.due("1", x.arrange(1), 1);
        CHECK.due("no yard", new WeatherMarbles().arrange(0), -1);
        CHECK.due("no yard", new WeatherMarbles().arrange(1), -1);
    }

    private static void arrangeNone() {
        CHECK.said(27, "NONE: there is none,");
        dueArrange("nobody at the farm's place", Check.yard("b;m;fp1"), -1, -1);
        dueArrange("no such kind", Check.yard("b;m;fw1"), -1, -1);
        dueArrange("two farms of one place", Check.yard("b;m;mw1;f;fw1"), -1, -1);
        dueArrange("one marble, two places", Check.yard("b;bp1;m;f;fp1"), -1, -1);
        dueArrange("two marbles, two places", Check.yard("b;bp1;m;m;f;fp1"), 1, 1);
        dueArrange("two marbles, three places", Check.yard("b;bp1;bp2;m;m;f;fp1;fp2"), -1, -1);
        dueArrange("nowhere to put the great one", Check.yard("bp1;ms9;mw1s1;fp1w1"), -1, -1);
        dueArrange("nor with the other", Check.yard("bp1;bp2;ms9;mw1s1;mo1w2s1;fp1w1;fp2w2"), -1, -1);
        dueArrange("with a third", Check.yard("bp1;bp2;bp3;ms9;mw1s1;mo1w2s1;fp1w1;fp2w2"), 1, 201);
        WeatherMarbles x = Check.yard("b;bp1;ms2;f");
        dueArrange("strength 2", x, 0, 0);
        x.chip(0);
        dueArrange("no strength", x, -1, -1);
        WeatherMarbles swallowed = Check.yard("b;bp1;m;fp1");
        swallowed.swallow(0);
        dueArrange("it can't change hands", swallowed, -1, -1);
        WeatherMarbles held = Check.yard("bp1;b;mo0s3;mo0w1s2;fp1w1");
        dueArrange("the greater one goes", held, 1, 10);
        held.swallow(0);
        dueArrange("the greater one can't", held, -1, -1);
    }

    private static void arrangeFewest() {
        CHECK.said(0, "ARRANGE: OWNERS of all MARBLES that are not DRAINED or SWALLOWED (others as now) by which all FARMS are CONTENT:");
        CHECK.said(0, "the fewest MARBLES with another OWNER than now (of several the least row): how many;");
        dueArrange("as now", Check.yard("b;bp1;m;mo1;f;fp1"), 0, 1);
        dueArrange("no farms", Check.yard("b;b;b;b;b;m;mo1;mo2;mo3;mo4;mo4"), 0, 12344);
        dueArrange("as now, all of one place", Check.yard("b;b;mo1;f"), 0, 1);
        dueArrange("as now, kinds of one place and of two", Check.yard("b;bp1;bp2;m;mo1w1;mo2w1;f;fp1w1;fp2w1"), 0, 12);
        dueArrange("one", Check.yard("b;bp1;m;m;f;fp1"), 1, 1);
        dueArrange("two change hands", Check.yard("b;bp1;mo1;mo0w1;f;fp1w1"), 2, 1);
        // each of five kinds is at the wrong place, and the sixth, too great for place 0, is harmless beside a 9 of kind 1
        dueArrange("all six", Check.yard("b;bp1;bp2;bp3;bp4;mo0w1s9;mo1w2s9;mo2w3s9;mo3w4s9;mo4s1;mo0w5s9;"
            + "f;fp1w1;fp2w2;fp3w3;fp4w4"), 6, 123401);
        dueArrange("one of six", Check.yard("b;bp1;mw1s1;mw1s1;mw1s1;mw1s1;mw1s1;mw1s1;fp1w1"), 1, 1);
        WeatherMarbles five = Check.yard("b;bp1;mo1w1s5;ms1;ms1;ms1;ms1;ms1;fp1");
        dueArrange("the one goes away", five, 2, 1);
        five.swallow(0);
        dueArrange("all five must come", five, 5, 111111);
        // two are 5 against 5 at best, and of as many kind 0 is the weather: 9 of kind 1 against 6 takes three
        dueArrange("three of six", Check.yard("b;bp1;mo0s5;mo1w1s5;mo0s4;mo1w1s4;mo0s1;mo1w1s1;fw1;fp1"), 3, 1001);
        WeatherMarbles fewer = Check.yard("b;bp1;bp2;mo2w1s2;mo2w1s2;mo2w2s3;fw1;fp2w2");
        dueArrange("fewer ahead of a lesser row", fewer, 1, 22);
    }

    private static void arrangeRows() {
        CHECK.said(0, "(of several the least row): how many; the row (OWNERS as digits by MARBLES; 9 for a DRAINED one).");
        dueArrange("the lowest boy of the place", Check.yard("b;bp1;bp1;m;fp1"), 1, 1);
        dueArrange("the last marble of two", Check.yard("b;bp1;m;m;fp1"), 1, 1);
        dueArrange("the first marble of two", Check.yard("bp1;b;mo1;mo1;fp1"), 1, 1);
        dueArrange("digits by marbles", Check.yard("b;b;b;b;b;mo4;mo3;mo2;mo1;mo0;mo4"), 0, 432104);
        WeatherMarbles x = lane("b;b;mo0;mo1;mo0;mo1;mo0;mo1");
        x.play(0, 8, 1, 1);
        dueArrange("the first drained", x, 0, 910101);
        x.play(4, 1, 5, 8);
        dueArrange("the last drained, too", x, 0, 910109);
        x.play(2, 8, 3, 8);
        dueArrange("and two more", x, 0, 919909);
        x.play(4, 8, 1, 8);
        dueArrange("all six", x, 0, 999999);
    }

    private static void arrangeFixed() {
        CHECK.said(0, "(others as now)");
        WeatherMarbles x = lane("b;bp1;mo1w2s9;mo0w1s5;mo0w1s3;mo0w1s4;fp1w1");
        dueArrange("the 2 goes, a 1 comes", x, 2, 1);
        x.swallow(0);
        dueArrange("5 and 4 against 9: the lowest of 9 is 1", x, 2, 1101);
        x.chip(1);
        dueArrange("chipped: 3, 3 and 4", x, 3, 1111);
        x.undo();
        x.swallow(3);
        dueArrange("5 and 3 are too few", x, -1, -1);
        x.undo();
        x.undo();
        x.play(0, 8, 1, 1);
        dueArrange("drained: any of 1", x, 1, 9001);
    }

    private static void seenTen() {
        CHECK.said(0, "SEEN (10 at most): the WEATHER of a PLACE was a KIND, or was not.");
        CHECK.said(28, "SEEN: how many there are.");
        WeatherMarbles x = Check.yard("b;m");
        for (int n = 1; n <= 10; n++) {
            CHECK.due("seen " + n, x.seen(n - 1, n % 6, false), n == 1 ? 1 : n);
            CHECK.due("how many", x.count(10), n);
        }
        CHECK.said(28, "there are ten.");
        for (int i = 0; i < 3; i++) {
            CHECK.due("an eleventh", x.seen(0, 0, true), -1);
            CHECK.due("still", x.count(10), 10);
        }
        CHECK.due("what was seen stands", x.who(0), 99);
        Check.lay(x, "b;m");
        CHECK.due("another yard: anew", x.seen(0, 0, true), 1);
    }

    private static void seenRefused() {
        CHECK.said(28, "NONE: no YARD, no such PLACE, no such KIND, there are ten.");
        WeatherMarbles x = Check.yard("b;m");
        for (int place : NO_PLACES) {
            CHECK.due("place " + place, x.seen(place, 0, true), -1);
        }
        for (int kind : NO_KINDS) {
            CHECK.due("kind " + kind, x.seen(0, kind, false), -1);
        }
        CHECK.due("none of these", x.count(10), 0);
        CHECK.due("no yard", new WeatherMarbles().seen(0, 0, true), -1);
        CHECK.due("the first", x.seen(0, 0, true), 1);
        CHECK.due("the last", x.seen(9, 5, false), 2);
        CHECK.due("no act", x.count(12), 0);
        CHECK.due("no status", Snapshot.status(x).equals("0 0 0 0 0 "), true);
    }

    private static void dueWho(String what, WeatherMarbles x, int... due) {
        CHECK.due("how many: " + what, x.who(-1), due.length);
        for (int i = 0; i < due.length; i++) {
            CHECK.due("the " + i + ": " + what, x.who(i), due[i]);
        }
        CHECK.due("no more: " + what, x.who(due.length), -1);
    }

    private static void who() {
        CHECK.said(0, "WHO: 10 times a MARBLE (not DRAINED) and a BOY that is not its OWNER: with that MARBLE his all SEEN is so;");
        CHECK.said(0, "99: it is so as now: how many, the i-th (rising).");
        CHECK.said(29, "WHO: how many (i NONE), the i-th.");
        WeatherMarbles x = Check.yard("b;bp1;mo0w1s5;mo1w2s3");
        dueWho("nothing seen", x, 1, 10, 99);
        x.seen(0, 1, true);
        dueWho("it was 1 at 0", x, 10, 99);
        x.seen(1, 2, false);
        dueWho("it was not 2 at 1", x, 10);
        x.seen(1, 1, false);
        dueWho("nor 1", x, 10);
        x.seen(0, 2, true);
        dueWho("two at once: never", x);
        WeatherMarbles none = Check.yard("b;bp1;mo0w1s2;mo1w2s3");
        none.chip(0);
        none.seen(0, 0, false);
        dueWho("no weather is not 0", none, 1, 10, 99);
        none.seen(0, 2, true);
        dueWho("2 at 0", none, 10);
        WeatherMarbles alone = Check.yard("b;m");
        dueWho("one boy: as now alone", alone, 99);
        alone.seen(0, 0, false);
        dueWho("not even as now", alone);
    }

    private static void whoOfAll() {
        WeatherMarbles x = Check.yard("b;b;b;b;b;m;mo1;mo2;mo3;mo4;mo0");
        int n = 0;
        for (int m = 0; m < 6; m++) {
            for (int b = 0; b < 5; b++) {
                if (b != m % 5) {
                    CHECK.due("the " + n, x.who(n), 10 * m + b);
                    n++;
                }
            }
        }
        CHECK.due("the last", x.who(n), 99);
        CHECK.due("how many", x.who(-1), 25);
        CHECK.due("no more", x.who(25), -1);
        WeatherMarbles y = lane("b;bp1;mo0w1s5;mo1w2s3;mo0");
        y.swallow(2);
        dueWho("a swallowed one, too", y, 1, 10, 21, 99);
        y.play(0, 1, 1, 8);
        dueWho("a drained one not", y, 1, 21, 99);
        y.play(0, 8, 1, 8);
        CHECK.due("drained ones can't be played", y.count(8), 2);
        y = lane("b;bp1;mo0w1s5;mo1w2s3");
        y.play(0, 8, 1, 8);
        dueWho("all drained: as now alone", y, 99);
        y.seen(0, 0, true);
        dueWho("nothing fits", y);
    }

    private static void whoRefused() {
        CHECK.said(29, "NONE: no such one, no YARD.");
        WeatherMarbles x = Check.yard("b;b;m");
        for (int i : new int[] {Integer.MIN_VALUE, -3, -2, 2, 99, Integer.MAX_VALUE}) {
            CHECK.due("the " + i, x.who(i), -1);
            CHECK.due("no yard, the " + i, new WeatherMarbles().who(i), -1);
        }
        CHECK.due("the first", x.who(0), 1);
        CHECK.due("the last", x.who(1), 99);
        CHECK.due("no yard", new WeatherMarbles().who(-1), -1);
        CHECK.due("no yard", new WeatherMarbles().who(0), -1);
    }

    private static void look() {
        CHECK.said(0, "LOOK: the PLACE (0 .. 9) for which the WEATHER (none, too) that most of these would tell is told by the fewest (of several the lowest).");
        CHECK.said(30, "LOOK.");
        CHECK.due("all alike: the lowest", Check.yard("bp5;m").best(), 0);
        for (int place = 0; place < 9; place++) {
            for (int other = place + 1; other < 10; other++) {
                CHECK.due("the first of two as good", Check.yard("bp" + place + ";bp" + other + ";m").best(), place);
                CHECK.due("the first of two as good", Check.yard("bp" + other + ";bp" + place + ";m").best(), place);
            }
        }
        CHECK.due("place 9", Check.yard("bp8;bp9;mo0w5s5;mo1w4s3").best(), 9);
        CHECK.due("place 0", Check.yard("bp9;bp0;mo0w5s5;mo1w4s3").best(), 0);
        // 1: 3 none, 7 is 1; 10: 3 is 1, 7 none; 99: 3 is 1, 7 is 2: none counts as an answer
        CHECK.due("none, too", Check.yard("bp3;bp7;mo0w1s5;mo1w2s3").best(), 7);
        WeatherMarbles x = Check.yard("bp3;bp7;mo0w1s5;mo1w2s3");
        x.seen(7, 2, false);
        CHECK.due("1 or 10: both places tell them apart", x.best(), 3);
        x.seen(3, 1, true);
        CHECK.due("10 alone: the lowest", x.best(), 0);
    }

    /** LOOK counted by hand: each of WHO carried out on a twin by gifts. */
    private static void lookOfAll() {
        Dice dice = new Dice(30);
        for (int n = 0; n < 120; n++) {
            StringBuilder text = new StringBuilder("sc99");
            int boys = n % 4 == 0 ? 5 : 2 + dice.below(4);
            for (int b = 0; b < boys; b++) {
                text.append(";bp").append(dice.below(n % 3 == 0 ? 3 : 10));
            }
            for (int m = n % 4 == 0 ? 6 : 1 + dice.below(6); m > 0; m--) {
                text.append(";mo").append(dice.below(boys)).append("w").append(dice.below(6));
                text.append("s").append(1 + dice.below(9));
            }
            WeatherMarbles x = Check.yard(text.toString());
            CHECK.due("look of " + text, x.best(), lookByHand(x, text.toString()));
            x.seen(dice.below(10), dice.below(6), dice.below(4) == 0);
            int due = x.who(-1) == 0 ? -1 : lookByHand(x, text.toString());
            CHECK.due("look of " + text + " with one seen", x.best(), due);
        }
    }

    private static int lookByHand(WeatherMarbles x, String text) {
        int[][] tally = new int[10][7];
        for (int i = 0; i < x.who(-1); i++) {
            WeatherMarbles y = Check.yard(text);
            if (x.who(i) != 99) {
                y.give(x.who(i) / 10, x.who(i) % 10);
            }
            for (int place = 0; place < 10; place++) {
                tally[place][y.weather(place) + 1]++;
            }
        }
        int best = 0;
        int fewest = Integer.MAX_VALUE;
        for (int place = 0; place < 10; place++) {
            int most = 0;
            for (int told : tally[place]) {
                most = Math.max(most, told);
            }
            if (most < fewest) {
                fewest = most;
                best = place;
            }
        }
        return best;
    }

    private static void lookRefused() {
        CHECK.said(30, "NONE: nothing fits, no YARD.");
        CHECK.due("no yard", new WeatherMarbles().best(), -1);
        WeatherMarbles x = Check.yard("b;bp1;m");
        x.seen(0, 0, true);
        CHECK.due("as now", x.best(), 0);
        x.seen(1, 0, true);
        CHECK.due("nothing fits", x.best(), -1);
        CHECK.due("how many", x.who(-1), 0);
    }
}
