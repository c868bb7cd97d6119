/** Promises 25 to 30 and FAIR of 41: weather by places, ARRANGE, SEEN, WHO, LOOK. */
public final class SkyTest {
    private static final Check CHECK = new Check();

    public static void main(String[] args) {
        strengths();
        weather();
        fair();
        arrangements();
        arrangementsWithFixedOnes();
        arrangementsByLeastRow();
        seen();
        who();
        whoOfAll();
        look();
        CHECK.finish();
    }

    private static void strengths() {
        WeatherMarbles x = Check.yard("sl3r1;bp3;bp3;bp7;mo0w2s5;mo1w2s4;mo2w2s1;mo1w0s1");
        CHECK.due("together", x.spell(3, 2), 9);
        CHECK.due("of one", x.spell(7, 2), 1);
        CHECK.due("another kind", x.spell(3, 0), 1);
        CHECK.due("none", x.spell(3, 5), 0);
        CHECK.due("nobody there", x.spell(9, 2), 0);
        x.chip(0);
        CHECK.due("2 less", x.spell(3, 2), 7);
        x.chip(3);
        CHECK.due("0 at least", x.spell(3, 0), 0);
        x.swallow(1);
        CHECK.due("swallowed ones too", x.spell(3, 2), 7);
        x.play(0, 9, 2, 1);
        CHECK.due("drained ones not", x.spell(3, 2), 4);
        CHECK.due("no such place", x.spell(10, 0), -1);
        CHECK.due("no such place", x.spell(-1, 0), -1);
        CHECK.due("no such kind", x.spell(0, 6), -1);
        CHECK.due("no such kind", x.spell(0, -1), -1);
        CHECK.due("no yard", new WeatherMarbles().spell(0, 0), -1);
    }

    private static void weather() {
        WeatherMarbles x = Check.yard("bp3;bp4;mo0w2s5;mo0w1s3;mo0w1s2;mo1w5s2");
        CHECK.due("5 and 5: the lowest", x.weather(3), 1);
        CHECK.due("the only", x.weather(4), 5);
        CHECK.due("none", x.weather(0), -1);
        x.chip(1);
        CHECK.due("5 and 3", x.weather(3), 2);
        x.chip(3);
        CHECK.due("no strength", x.weather(4), -1);
        CHECK.due("no such place", x.weather(10), -1000000);
        CHECK.due("no such place", x.weather(-1), -1000000);
        CHECK.due("no yard", new WeatherMarbles().weather(0), -1000000);
    }

    private static void fair() {
        WeatherMarbles x = Check.yard("bp3;bp9;mo0s1");
        CHECK.due("all but 3", x.most(2), 1023 - 8);
        x.chip(0);
        CHECK.due("all", x.most(2), 1023);
        x = Check.yard("bp0;bp9;mo0;mo1");
        CHECK.due("all but 0 and 9", x.most(2), 510);
    }

    private static void dueArrange(String what, WeatherMarbles x, int changes, int row) {
        CHECK.due("how many: " + what, x.arrange(0), changes);
        CHECK.due("the row: " + what, x.arrange(1), row);
    }

    private static void arrangements() {
        WeatherMarbles x = Check.yard("b;bp1;bp1;mo0w1s5;mo0w2s4;mo1w1s6;fp1w2;fw1");
        dueArrange("two change", x, 2, 10);
        CHECK.due("nothing is changed", x.hands(0), 3);
        CHECK.due("no such what", x.arrange(2), -1);
        CHECK.due("no such what", x.arrange(-1), -1);
        CHECK.due("no yard", new WeatherMarbles().arrange(0), -1);
        dueArrange("no farms", Check.yard("b;b;mo1;mo0;mo1"), 0, 101);
        dueArrange("all content", Check.yard("b;bp1;mo1;mo0;f;fp1"), 0, 10);
        dueArrange("nobody there", Check.yard("b;bp1;mo1;mo0;fp2"), -1, -1);
        dueArrange("two kinds at one place", Check.yard("b;mw1;mw2;fw1;fw2"), -1, -1);
        dueArrange("the same twice", Check.yard("b;bp1;mo1w1;fw1;fw1n9"), 1, 0);
        dueArrange("no such kind", Check.yard("b;bp1;mo1w1;fw3"), -1, -1);
        dueArrange("one for two", Check.yard("b;bp1;mo1w1;fw1;fw1p1"), -1, -1);
        dueArrange("six marbles, five boys", Check.yard(
            "bp1;bp2;bp3;bp4;bp5;mw1;mw1;mw1;mw1;mw1;mw2;fp1w1;fp2w1;fp3w1;fp4w1;fp5w1"), 4, 12340);
        dueArrange("none of six", Check.yard(
            "bp1;bp2;bp3;bp4;bp5;mw1;mw1;mw1;mw1;mw2;mw2;fp1w1;fp2w1;fp3w1;fp4w1;fp5w1"), -1, -1);
    }

    private static void arrangementsWithFixedOnes() {
        WeatherMarbles x = Check.yard("sl5r3;b;bp1;bp1;mo0w1s5;mo0w2s4;mo1w1s6;fp1w2;fw1");
        Check.holds(x, "y:p");
        x.swallow(2);
        dueArrange("6 against 4 for ever", x, -1, -1);
        x.undo();
        x.swallow(1);
        dueArrange("no 2 for place 1", x, -1, -1);
        x.undo();
        x.play(2, 9, 0, 1);
        dueArrange("a drained one", x, 1, 19);
        x.play(0, 9, 1, 1);
        CHECK.due("his own both", x.count(8), 4);
        x.give(1, 1);
        dueArrange("content, one drained", x, 0, 19);
        x.play(0, 9, 1, 9);
        dueArrange("all drained", x, -1, -1);
        WeatherMarbles y = Check.yard("sl5r3;b;b;mo0;mo1");
        Check.holds(y, "y:p");
        y.play(0, 9, 1, 9);
        dueArrange("all drained, no farms", y, 0, 99);
        WeatherMarbles z = Check.yard("b;bp1;mo1w1s9;mo0w2s3;mo1w2s5;fp1w2");
        z.swallow(2);
        z.chip(0);
        WeatherMarbles five = Check.yard("b;bp1;mo1w1s5;ms1;ms1;ms1;ms1;ms1;fp1");
        five.swallow(0);
        dueArrange("all five that can", five, 5, 111111);
        dueArrange("7 against 8 with the swallowed one", z, 1, 1);
        z.chip(1);
        dueArrange("the great one moves", z, 1, 1);
    }

    private static void arrangementsByLeastRow() {
        dueArrange("of 1 and 2 the lowest", Check.yard("b;bp1;bp1;mo0w3;fp1w3"), 1, 1);
        dueArrange("of two marbles the later", Check.yard("b;bp1;bp1;mo0w3;mo0w3;fp1w3"), 1, 1);
        dueArrange("of two marbles the first", Check.yard("bp1;b;mo1w3;mo1w3;fp1w3"), 1, 1);
        dueArrange("fewer ahead of less", Check.yard("b;bp1;bp2;mo2w1s2;mo2w1s2;mo2w2s3;fw1;fp2w2"), 1, 22);
        dueArrange("a tie to break", Check.yard("b;bp1;mo0w1s3;mo0w0s3;mo1w2s1;fw1"), 1, 11);
    }

    private static void seen() {
        WeatherMarbles x = Check.yard("b;m");
        for (int i = 1; i <= 10; i++) {
            CHECK.due("seen", x.seen(i - 1, i % 6, i % 2 == 0), i);
        }
        CHECK.due("there are ten", x.seen(0, 0, true), -1);
        CHECK.due("how many", x.count(10), 10);
        Check.lay(x, "b;m");
        CHECK.due("no such place", x.seen(10, 0, true), -1);
        CHECK.due("no such place", x.seen(-1, 0, true), -1);
        CHECK.due("no such kind", x.seen(0, 6, true), -1);
        CHECK.due("no such kind", x.seen(0, -1, true), -1);
        CHECK.due("how many", x.count(10), 0);
        CHECK.due("no yard", new WeatherMarbles().seen(0, 0, true), -1);
        CHECK.due("it is no act", x.count(12), 0);
        CHECK.due("nor refused as one", x.status(0) + x.status(1), 0);
        CHECK.due("the same twice", x.seen(0, 0, true) + x.seen(0, 0, true), 3);
    }

    private static void dueWho(String what, WeatherMarbles x, int... due) {
        CHECK.due("how many: " + what, x.who(-1), due.length);
        for (int i = 0; i < due.length; i++) {
            CHECK.due(i + ": " + what, x.who(i), due[i]);
        }
        CHECK.due("beyond: " + what, x.who(due.length), -1);
        CHECK.due("ahead: " + what, x.who(-2), -1);
    }

    private static void who() {
        WeatherMarbles x = Check.yard("b;bp1;bp1;mo0w1s5;mo1w2s3;mo2w1s2");
        dueWho("nothing seen", x, 1, 2, 10, 12, 20, 21, 99);
        x.seen(1, 1, true);
        dueWho("1 at place 1", x, 1, 2, 10);
        x.seen(0, 1, false);
        dueWho("not 1 at place 0", x, 1, 2);
        x.seen(0, 2, false);
        dueWho("nor 2", x, 1, 2);
        x.seen(1, 2, true);
        dueWho("2 at place 1, too: never", x);
        CHECK.due("nothing fits", x.best(), -1);
        CHECK.due("no yard", new WeatherMarbles().who(-1), -1);
        CHECK.due("no yard", new WeatherMarbles().who(0), -1);
        WeatherMarbles y = Check.yard("b;bp1;mo0w1s5;mo1w0s3");
        y.seen(0, 1, true);
        dueWho("as now, and more", y, 10, 99);
        y.chip(0);
        dueWho("by what they are now", y, 99);
        y.swap(0, 1);
        dueWho("not as now", y);
    }

    private static void whoOfAll() {
        WeatherMarbles x = Check.yard("sl5r3;b;bp1;mo0w1s5;mo1w2s3;mo0");
        Check.holds(x, "y:p");
        x.swallow(0);
        dueWho("a swallowed one, too", x, 1, 10, 21, 99);
        x.play(1, 9, 2, 1);
        dueWho("a drained one not", x, 1, 21, 99);
        WeatherMarbles most = Check.yard("b;b;b;b;b;m;m;m;m;m;m");
        CHECK.due("the most there are", most.who(-1), 25);
        CHECK.due("the last", most.who(24), 99);
        CHECK.due("the one ahead", most.who(23), 54);
        CHECK.due("nothing moves", most.hands(0), 63);
    }

    private static void look() {
        WeatherMarbles x = Check.yard("b;bp1;bp2;m");
        CHECK.due("2 of 3 at most, the lowest", x.best(), 0);
        x.seen(0, 0, false);
        CHECK.due("1 of 2", x.best(), 1);
        WeatherMarbles y = Check.yard("bp4;bp7;mo0w1s5;mo1w2s3");
        // 1: 4 none, 7 is 1; 10: 4 is 1, 7 none; 99: 4 is 1, 7 is 2
        CHECK.due("7 tells all three apart", y.best(), 7);
        y.chip(0);
        y.seen(7, 2, true);
        CHECK.due("anew: 99 alone", y.best(), 0);
        WeatherMarbles late = Check.yard("bp8;bp9;mo0w5s5;mo1w4s3");
        // 1: 8 none, 9 is 5; 10: 8 is 5, 9 none; 99: 8 is 5, 9 is 4
        CHECK.due("9 tells all three apart", late.best(), 9);
        late.seen(9, 5, false);
        CHECK.due("10 and 99", late.best(), 9);
        late.seen(9, 4, false);
        CHECK.due("10 alone", late.best(), 0);
        WeatherMarbles third = Check.yard("bp1;bp2;bp3;mo2w1s1;mo0w1s9;mo0w2s9");
        third.seen(1, 1, false);
        // 11 and 12: place 2 is 1 or none, place 3 is 1 both times
        CHECK.due("two of one marble", third.best(), 2);
        WeatherMarbles alone = Check.yard("bp5;m");
        CHECK.due("as now alone: all places alike", alone.best(), 0);
        CHECK.due("no yard", new WeatherMarbles().best(), -1);
        CHECK.due("nothing moves", y.hands(0), 1);
    }
}
