/** Promises 11 to 17 and 19: games, swaps, gifts, chipped and swallowed ones, days, SPILLS, STATUS. */
public final class ActTest {
    private static final Check CHECK = new Check();
    // By the law y:p a marble comes to the cell of its power; the hole is 5, the drain 8.
    private static final String LANE = "sl5r3;b;bp1;bp1;mo0s4;mo1w1s3;mo1w2s2;mo2s9";

    public static void main(String[] args) {
        games();
        drainedGames();
        gamesByUsual();
        refusedGames();
        swaps();
        gifts();
        chips();
        swallows();
        passingDays();
        lastDay();
        spills();
        nothingButStatus();
        CHECK.finish();
    }

    private static WeatherMarbles lane() {
        WeatherMarbles x = Check.yard(LANE);
        Check.holds(x, "y:p");
        return x;
    }

    private static void dueStatus(String what, WeatherMarbles x, int... due) {
        for (int i = 0; i < 5; i++) {
            CHECK.due("status " + i + " " + what, x.status(i), due[i]);
        }
    }

    private static void games() {
        WeatherMarbles x = lane();
        CHECK.due("as near", x.play(0, 4, 1, 6), 0);
        CHECK.due("each keeps his", x.hands(0) * 100 + x.hands(1), 106);
        CHECK.due("an act all the same", x.count(12), 1);
        CHECK.due("the first", x.play(0, 5, 1, 6), 1);
        CHECK.due("has both", x.hands(0), 3);
        CHECK.due("of the other", x.hands(1), 4);
        CHECK.due("the second", x.play(1, 1, 3, 2), 2);
        CHECK.due("has both", x.hands(2), 10);
        CHECK.due("the first again", x.play(1, 7, 2, 2), 1);
        CHECK.due("has both", x.hands(2), 14);
        CHECK.due("none left", x.hands(1), 0);
        CHECK.due("acts", x.count(12), 4);
        dueStatus("of games", x, 0, 0, 0, 0, 0);
    }

    private static void drainedGames() {
        WeatherMarbles x = lane();
        CHECK.due("the first is gone", x.play(0, 8, 1, 1), 0);
        CHECK.due("its owner", x.marble(0, 0), -1);
        CHECK.due("the other keeps his", x.marble(1, 0), 1);
        CHECK.due("drained", x.count(8), 1);
        CHECK.due("the second is gone", x.play(1, 7, 3, 9), 0);
        CHECK.due("drained", x.count(8), 9);
        CHECK.due("hands", x.hands(1), 6);
        x.undo();
        CHECK.due("both are gone", x.play(1, 8, 3, 9), 0);
        CHECK.due("drained", x.count(8), 11);
        CHECK.due("hands", x.hands(1), 4);
    }

    private static void gamesByUsual() {
        // skill 5, size 4: 2p + 1; skill 9, size 3: 2p + 3; the hole 12, the drain 15
        WeatherMarbles x = Check.yard("b;bk9;mo0s4;mo1s3");
        CHECK.due("11 and 13", x.play(0, 5, 1, 5), 0);
        CHECK.due("11 and 9", x.play(0, 5, 1, 3), 1);
        x.undo();
        CHECK.due("9 and 11", x.play(0, 4, 1, 4), 2);
        x.undo();
        CHECK.due("15 and 11", x.play(0, 7, 1, 4), 0);
        CHECK.due("gone", x.count(8), 1);
    }

    private static void refusedGames() {
        WeatherMarbles x = lane();
        CHECK.due("no such marble", x.play(4, 1, 1, 1), -1);
        CHECK.due("no such marble", x.play(0, 1, -1, 1), -1);
        CHECK.due("no such marble comes first", x.play(4, 0, 4, 0), -1);
        dueStatus("no such", x, 3, 0, 0, 0, 0);
        CHECK.due("alike", x.play(0, 1, 0, 1), -1);
        CHECK.due("power", x.play(0, 0, 1, 1), -1);
        CHECK.due("power", x.play(0, 10, 1, 1), -1);
        CHECK.due("power", x.play(0, 1, 1, 0), -1);
        CHECK.due("power", x.play(0, 1, 1, 10), -1);
        CHECK.due("power comes first", x.play(1, 1, 2, 10), -1);
        dueStatus("out of bounds", x, 3, 6, 0, 0, 0);
        CHECK.due("his own both", x.play(1, 1, 2, 1), -1);
        x.swallow(3);
        CHECK.due("swallowed", x.play(0, 1, 3, 1), -1);
        CHECK.due("swallowed", x.play(3, 1, 0, 1), -1);
        x.play(0, 9, 1, 1);
        CHECK.due("drained", x.play(0, 1, 1, 1), -1);
        CHECK.due("drained", x.play(1, 1, 0, 1), -1);
        dueStatus("not fit", x, 3, 6, 5, 0, 0);
        CHECK.due("acts", x.count(12), 2);
    }

    private static void swaps() {
        WeatherMarbles x = lane();
        CHECK.due("swap", x.swap(0, 2), 1);
        CHECK.due("the other's", x.marble(2, 0), 0);
        CHECK.due("swap back", x.swap(0, 2), 0);
        CHECK.due("swap", x.swap(3, 1), 1);
        CHECK.due("no sweets for it", x.rule(2), 10);
        CHECK.due("acts", x.count(12), 3);
        CHECK.due("no such", x.swap(4, 0), -1);
        CHECK.due("no such", x.swap(0, -1), -1);
        CHECK.due("no such, alike", x.swap(7, 7), -1);
        CHECK.due("alike", x.swap(1, 1), -1);
        CHECK.due("his own both", x.swap(2, 3), -1);
        x.swallow(0);
        CHECK.due("swallowed", x.swap(0, 1), -1);
        CHECK.due("swallowed", x.swap(1, 0), -1);
        x.play(1, 8, 2, 8);
        CHECK.due("drained", x.swap(1, 3), -1);
        CHECK.due("both drained", x.swap(1, 2), -1);
        dueStatus("of swaps", x, 3, 1, 5, 0, 0);
    }

    private static void gifts() {
        WeatherMarbles x = lane();
        CHECK.due("give", x.give(0, 1), 6);
        CHECK.due("its owner", x.marble(0, 0), 1);
        CHECK.due("give", x.give(1, 0), 3);
        CHECK.due("too few", x.give(0, 0), -1);
        CHECK.due("too few", x.give(3, 0), -1);
        CHECK.due("just enough", x.give(1, 2), 0);
        CHECK.due("too few", x.give(2, 0), -1);
        CHECK.due("it is his", x.give(2, 1), -1);
        CHECK.due("no such marble", x.give(4, 0), -1);
        CHECK.due("no such marble", x.give(-1, 0), -1);
        CHECK.due("no such boy", x.give(0, 3), -1);
        CHECK.due("no such boy", x.give(0, -1), -1);
        x.swallow(3);
        CHECK.due("swallowed comes ahead of too few", x.give(3, 0), -1);
        x.play(1, 9, 2, 1);
        CHECK.due("one that is swallowed can't be played", x.count(8), 2);
        CHECK.due("drained", x.give(1, 0), -1);
        dueStatus("of gifts", x, 4, 0, 3, 3, 0);
        CHECK.due("acts", x.count(12), 5);
    }

    private static void chips() {
        WeatherMarbles x = lane();
        CHECK.due("chip", x.chip(0), 1);
        CHECK.due("chip", x.chip(3), 2);
        CHECK.due("again", x.chip(3), -1);
        CHECK.due("no such", x.chip(4), -1);
        CHECK.due("no such", x.chip(-1), -1);
        x.swallow(1);
        CHECK.due("a swallowed one", x.chip(1), 3);
        x.play(2, 9, 0, 9);
        CHECK.due("drained", x.chip(2), -1);
        CHECK.due("chipped and drained", x.chip(0), -1);
        dueStatus("of chips", x, 2, 0, 3, 0, 0);
        CHECK.due("acts", x.count(12), 5);
    }

    private static void swallows() {
        WeatherMarbles x = lane();
        x.chip(0);
        CHECK.due("swallow", x.swallow(0), 1);
        CHECK.due("again", x.swallow(0), -1);
        CHECK.due("swallow", x.swallow(1), 2);
        CHECK.due("no such", x.swallow(4), -1);
        CHECK.due("no such", x.swallow(-1), -1);
        x.play(2, 9, 3, 1);
        CHECK.due("drained", x.swallow(2), -1);
        CHECK.due("swallow", x.swallow(3), 3);
        dueStatus("of swallows", x, 2, 0, 2, 0, 0);
        CHECK.due("it is still his", x.hands(0), 1);
    }

    private static void passingDays() {
        WeatherMarbles x = Check.yard("sc97;bp1;mw2;fp1w2n9;fp1w2n5;fp1w3n7");
        CHECK.due("a day", x.days(1), 111);
        CHECK.due("the day", x.count(6), 1);
        CHECK.due("two", x.days(2), 139);
        CHECK.due("sixty", x.days(60), 979);
        CHECK.due("999 at most", x.days(2), 999);
        CHECK.due("still", x.days(1), 999);
        CHECK.due("the day", x.count(6), 66);
        CHECK.due("none", x.days(0), -1);
        CHECK.due("too many", x.days(61), -1);
        CHECK.due("far too many", x.days(Integer.MAX_VALUE), -1);
        dueStatus("of days", x, 0, 3, 0, 0, 0);
        WeatherMarbles y = new WeatherMarbles();
        CHECK.due("no yard comes first", y.days(0), -1);
        dueStatus("of no yard", y, 1, 0, 0, 0, 0);
    }

    private static void lastDay() {
        WeatherMarbles x = Check.yard("b;m;f");
        for (int i = 0; i < 166; i++) {
            x.days(60);
        }
        CHECK.due("the day", x.count(6), 9960);
        CHECK.due("beyond", x.days(40), -1);
        CHECK.due("years beyond", x.years(40, 1), -1);
        CHECK.due("out of bounds comes first", x.days(61), -1);
        CHECK.due("the day", x.count(6), 9960);
        CHECK.due("to the last", x.days(38), 999);
        CHECK.due("to the last", x.years(1, 5), 9999);
        CHECK.due("none goes by then", x.days(1), -1);
        CHECK.due("none goes by then", x.years(1, 1), -1);
        dueStatus("at the end", x, 0, 1, 0, 0, 2);
        CHECK.due("undo", x.undo(), 39);
        CHECK.due("the day", x.count(6), 9998);
        CHECK.due("another", x.days(1), 999);
    }

    private static void spills() {
        WeatherMarbles x = new WeatherMarbles();
        CHECK.due("it is so", x.spills(0), false);
        CHECK.due("without a yard", x.spills(9), true);
        CHECK.due("it is so", x.spills(9), false);
        CHECK.due("out of bounds", x.spills(10), false);
        CHECK.due("out of bounds", x.spills(-1), false);
        CHECK.due("spills", x.count(9), 9);
        CHECK.due("again", x.spills(0), true);
        CHECK.due("spills", x.count(9), 0);
        dueStatus("of spills", x, 0, 0, 0, 0, 0);
    }

    private static void nothingButStatus() {
        WeatherMarbles x = lane();
        CHECK.due("no such status", x.status(5), -1);
        CHECK.due("no such status", x.status(-1), -1);
        x.play(9, 1, 1, 1);
        x.swap(1, 2);
        x.give(3, 3);
        x.chip(9);
        x.swallow(9);
        x.days(0);
        x.undo();
        CHECK.due("acts", x.count(12), 0);
        CHECK.due("hands", x.hands(0) + 10 * x.hands(1) + 100 * x.hands(2), 861);
        CHECK.due("sweets", x.rule(2), 10);
        CHECK.due("day", x.count(6), 0);
        dueStatus("of all", x, 4, 1, 1, 0, 0);
        x.chip(0);
        x.undo();
        dueStatus("is not undone", x, 4, 1, 1, 0, 0);
        x.image();
        x.chip(9);
        x.back();
        dueStatus("nor brought back", x, 5, 1, 1, 0, 0);
    }
}
