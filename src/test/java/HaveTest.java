/** Promises 33 to 35 and 37 to 41: corners, likings, trades, shares, sweets to come, hands, the richest, the strongest. */
public final class HaveTest {
    private static final Check CHECK = new Check();

    public static void main(String[] args) {
        corners();
        likings();
        trades();
        refusedTrades();
        shares();
        pays();
        saves();
        hands();
        most();
        CHECK.finish();
    }

    /** By y:p the cell is the power; the hole 5, the drain 8. */
    private static WeatherMarbles plain(String rest) {
        WeatherMarbles x = Check.yard("sl5r3;" + rest);
        Check.holds(x, "y:p");
        return x;
    }

    private static void corners() {
        WeatherMarbles x = plain("b;b;b;mo1w2;mo1w2;mo0w1;mo2w1;mo2w5");
        CHECK.due("all of 2", x.corner(2), 1);
        CHECK.due("two have 1", x.corner(1), -1);
        CHECK.due("the only 5", x.corner(5), 2);
        CHECK.due("there is no 0", x.corner(0), -1);
        CHECK.due("all of 0", plain("b;b;mo1;mo1;mo0w1").corner(0), 1);
        CHECK.due("the first is another's", plain("b;b;mo0;mo1").corner(0), -1);
        x.swallow(0);
        CHECK.due("a swallowed one is his", x.corner(2), 1);
        x.play(2, 9, 1, 1);
        CHECK.due("a drained one does not count", x.corner(1), 2);
        x.play(4, 9, 1, 1);
        CHECK.due("all of 5 are drained", x.corner(5), -1);
        CHECK.due("no such kind", x.corner(6), -1);
        CHECK.due("no such kind", x.corner(-1), -1);
        CHECK.due("no yard", new WeatherMarbles().corner(0), -1);
    }

    private static void likings() {
        WeatherMarbles x = plain("b;bp1;mo0w2s4;mo1w3s1;fw2;fw2;fp1w3;fp5w2");
        CHECK.due("4 and 5", x.liking(0, 0), 9);
        CHECK.due("of another place", x.liking(1, 0), 4);
        CHECK.due("1 and 5", x.liking(1, 1), 6);
        CHECK.due("1", x.liking(0, 1), 1);
        x.chip(0);
        x.chip(1);
        CHECK.due("2 less", x.liking(0, 0), 7);
        CHECK.due("0 at least, and 5", x.liking(1, 1), 5);
        CHECK.due("0 at least", x.liking(0, 1), 0);
        x.play(0, 9, 1, 9);
        CHECK.due("a drained one", x.liking(0, 0), 7);
        CHECK.due("no such boy", x.liking(2, 0), -1);
        CHECK.due("no such boy", x.liking(-1, 0), -1);
        CHECK.due("no such marble", x.liking(0, 2), -1);
        CHECK.due("no such marble", x.liking(0, -1), -1);
        CHECK.due("no yard", new WeatherMarbles().liking(0, 0), -1);
    }

    private static void trades() {
        WeatherMarbles x = plain("b;bp1;mo0w1s4;mo1w2s3;mo1w2s4;mo0w1s6;fw2;fp1w1");
        // boy 0 likes 4, 8, 9, 6; boy 1 likes 9, 3, 4, 11
        CHECK.due("how many", x.trades(-1), 4);
        CHECK.due("0 and 1", x.trades(0), 1);
        CHECK.due("0 and 2", x.trades(1), 2);
        CHECK.due("1 and 3", x.trades(2), 13);
        CHECK.due("2 and 3", x.trades(3), 23);
        CHECK.due("beyond", x.trades(4), -1);
        CHECK.due("ahead", x.trades(-2), -1);
        x.swap(0, 1);
        CHECK.due("2 and 3 are left", x.trades(-1), 1);
        CHECK.due("2 and 3", x.trades(0), 23);
        WeatherMarbles y = plain("b;bp1;mo0w1s4;mo1w2s4;fw2;fp1w1n0");
        CHECK.due("both more", y.trades(-1), 1);
        y.chip(0);
        CHECK.due("boy 1: 7 against 4", y.trades(-1), 1);
        y = plain("b;bp1;mo0w1s7;mo1w2s2;fw2;fp1w1");
        CHECK.due("as much is not more", y.trades(-1), 0);
        CHECK.due("nor to the other", plain("b;bp1;mo0w1s2;mo1w2s7;fw2;fp1w1").trades(-1), 0);
        y.chip(0);
        CHECK.due("7 against 5", y.trades(-1), 1);
        CHECK.due("no farms: never both", plain("b;b;mo0s1;mo1s9").trades(-1), 0);
    }

    private static void refusedTrades() {
        WeatherMarbles x = plain("b;bp1;mo0w1s4;mo1w2s3;mo1w2s4;mo0w1s6;fw2;fp1w1");
        x.swallow(0);
        CHECK.due("without the swallowed one", x.trades(-1), 2);
        CHECK.due("the first", x.trades(0), 13);
        x.play(3, 9, 1, 1);
        CHECK.due("nor the drained one", x.trades(-1), 0);
        CHECK.due("no such", x.trades(0), -1);
        CHECK.due("no yard", new WeatherMarbles().trades(-1), -1);
        CHECK.due("no yard", new WeatherMarbles().trades(0), -1);
        CHECK.due("no status", x.status(2), 0);
    }

    private static void shares() {
        WeatherMarbles x = plain("b;b;b;mo0s5;mo1s4;mo1s2");
        CHECK.due("5 of 11", x.shares(0, 100), 45);
        CHECK.due("6 of 11", x.shares(1, 100), 54);
        CHECK.due("none", x.shares(2, 100), 0);
        CHECK.due("of none", x.shares(0, 0), 0);
        CHECK.due("of 999", x.shares(1, 999), 544);
        x.chip(0);
        x.swallow(0);
        CHECK.due("its size all the same", x.shares(0, 100), 45);
        x.play(1, 9, 2, 9);
        CHECK.due("his own both", x.shares(1, 100), 54);
        x.swap(1, 0);
        x.give(1, 2);
        x.play(1, 8, 2, 1);
        CHECK.due("5 of 7", x.shares(0, 100), 71);
        CHECK.due("no such boy", x.shares(3, 0), -1);
        CHECK.due("no such boy", x.shares(-1, 0), -1);
        CHECK.due("out of bounds", x.shares(0, 1000), -1);
        CHECK.due("out of bounds", x.shares(0, -1), -1);
        CHECK.due("no yard", new WeatherMarbles().shares(0, 0), -1);
        WeatherMarbles y = plain("b;b;mo0;mo1");
        y.play(0, 9, 1, 9);
        CHECK.due("all drained", y.shares(0, 100), 0);
    }

    private static void pays() {
        WeatherMarbles x = Check.yard("b;bp1;mo0w1;mo1w2;fw1n9;fw2n8;fp1w2n7;fp2n6;fp1w2n0");
        CHECK.due("9 and 7", x.pays(), 16);
        x.swap(0, 1);
        CHECK.due("8", x.pays(), 8);
        CHECK.due("no farms", Check.yard("b;m").pays(), 0);
        CHECK.due("no yard", new WeatherMarbles().pays(), -1);
        CHECK.due("nothing is paid", x.rule(2), 10);
    }

    private static void saves() {
        WeatherMarbles x = Check.yard("b;m;fn7");
        CHECK.due("as it is", x.saves(1), 0);
        CHECK.due("as it is", x.saves(10), 0);
        CHECK.due("a day", x.saves(11), 1);
        CHECK.due("a day", x.saves(17), 1);
        CHECK.due("two", x.saves(18), 2);
        CHECK.due("sixty", x.saves(430), 60);
        CHECK.due("not within", x.saves(431), -1);
        CHECK.due("out of bounds", x.saves(0), -1);
        CHECK.due("out of bounds", x.saves(1000), -1);
        CHECK.due("no yard", new WeatherMarbles().saves(1), -1);
        CHECK.due("none is paid", Check.yard("b;m").saves(11), -1);
        CHECK.due("999", Check.yard("sc99;b;m;fn9;fn6").saves(999), 60);
    }

    private static void hands() {
        WeatherMarbles x = plain("b;b;b;mo2;mo0;mo2;mo2;mo0;mo2");
        CHECK.due("hands", x.hands(0), 18);
        CHECK.due("none", x.hands(1), 0);
        CHECK.due("hands", x.hands(2), 45);
        x.swallow(0);
        CHECK.due("a swallowed one is his", x.hands(2), 45);
        x.play(2, 9, 1, 1);
        CHECK.due("a drained one is not", x.hands(2), 41);
        CHECK.due("no such boy", x.hands(3), -1);
        CHECK.due("no such boy", x.hands(-1), -1);
        CHECK.due("no yard", new WeatherMarbles().hands(0), -1);
    }

    private static void most() {
        WeatherMarbles x = plain("b;b;b;mo0s3;mo1s7;mo2s7;mo1s2");
        CHECK.due("richest", x.most(0), 1);
        CHECK.due("strongest, the lowest", x.most(1), 1);
        x.swallow(1);
        x.swallow(2);
        CHECK.due("richest", x.most(0), 1);
        x.chip(1);
        CHECK.due("by size", x.most(1), 1);
        x.play(3, 9, 0, 1);
        CHECK.due("all have one: the lowest", x.most(0), 0);
        x = plain("b;b;mo0s3;mo1s7");
        x.play(1, 9, 0, 1);
        CHECK.due("the other is drained", x.most(1), 0);
        x = plain("b;b;mo0s3;mo1s7");
        x.play(1, 9, 0, 9);
        CHECK.due("all drained", x.most(1), -1);
        CHECK.due("the richest has none", x.most(0), 0);
        CHECK.due("no champion", x.most(3), -1);
        CHECK.due("no weather", x.most(2), 1023);
        CHECK.due("no such what", x.most(4), -1);
        CHECK.due("no such what", x.most(-1), -1);
        for (int what = 0; what < 4; what++) {
            CHECK.due("no yard", new WeatherMarbles().most(what), -1);
        }
    }
}
