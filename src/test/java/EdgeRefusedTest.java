/** What is refused answers as told and changes nothing but STATUS: of two twins one is asked all that is refused. */
public final class EdgeRefusedTest {
    private static final Check CHECK = new Check();
    private static final int NONE = -1;
    private static final int HIDDEN = -1000000;
    private static final int[] FAR = {Integer.MIN_VALUE, -1000001, -1000000, -3, 1000, 1000000, Integer.MAX_VALUE};

    public static void main(String[] args) {
        constants();
        twins();
        withoutYard();
        CHECK.finish();
    }

    private static void constants() {
        CHECK.said(0, "The constants: `NONE = -1`: None; refused.");
        CHECK.due("NONE", WeatherMarbles.NONE, -1);
        CHECK.said(0, "`HIDDEN = -1000000`: Not told.");
        CHECK.due("HIDDEN", WeatherMarbles.HIDDEN, -1000000);
    }

    /** All is there: laws, a tape, seen ones, a long log, 40 acts, an image; 4 is drained, 3 swallowed, 1 and 2 one boy's. */
    private static WeatherMarbles full() {
        WeatherMarbles x = Check.yard("sl5r3c2;b;bp1;bp2;mo0s4;mo1w1s3;mo1s2;mo2s9;mo0s1;mo2w5s9;f;fp1w1n0;fp2w5n0");
        for (int i = 0; i < 4; i++) {
            Check.holds(x, "y:p+" + i);
        }
        x.law(0);
        x.spills(4);
        for (int i = 0; i < 10; i++) {
            x.seen(i, 0, i == 0);
        }
        x.play(4, 8, 1, 1);
        x.chip(2);
        x.days(60);
        x.image();
        x.years(30, 99);
        x.swallow(3);
        Check.feed(x, "b;m");
        return x;
    }

    private static void twins() {
        CHECK.said(0, "What is refused answers as told and changes nothing but STATUS.");
        WeatherMarbles x = full();
        WeatherMarbles twin = full();
        refusedTexts(x);
        for (int far : FAR) {
            refusedActs(x, far);
            refusedQuestions(x, far);
            refusedGames(x, far);
        }
        CHECK.due("as its twin", Snapshot.of(x).equals(Snapshot.of(twin)), true);
        for (int left = 39; left >= -1; left--) {
            CHECK.due("undo", x.undo(), left);
            twin.undo();
            CHECK.due("as its twin, undone to " + left, Snapshot.of(x).equals(Snapshot.of(twin)), true);
        }
        CHECK.due("back", x.back(), twin.back());
        CHECK.due("as its twin, back", Snapshot.of(x).equals(Snapshot.of(twin)), true);
        CHECK.due("the tape", x.text(0), twin.text(0));
        CHECK.due("as its twin, in another yard", Snapshot.of(x).equals(Snapshot.of(twin)), true);
        int n = FAR.length;
        CHECK.due("no such", x.status(0), twin.status(0) + 9 * n);
        CHECK.due("out of bounds", x.status(1), twin.status(1) + 3 * n);
        CHECK.due("not fit", x.status(2), twin.status(2));
    }

    private static void refusedTexts(WeatherMarbles x) {
        CHECK.due("too many bytes", Check.feed(x, " ".repeat(220)), 223);
        CHECK.due("feed", x.feed(0x20202020, 0x20202020, 0x20202020, 0x20202020, 0x20202020), -1);
        CHECK.due("end", x.end(224), false);
        CHECK.due("end", x.end(-1), false);
        CHECK.due("a law with a fault, and four laws", x.text(1), -1);
        CHECK.due("the bytes that were fed", x.end(3), true);
        CHECK.due("seen: there are ten", x.seen(0, 0, true), -1);
        CHECK.due("spills: it is so", x.spills(4), false);
    }

    private static void refusedActs(WeatherMarbles x, int far) {
        CHECK.due("fault", x.fault(far), -2);
        CHECK.due("text", x.text(far), NONE);
        CHECK.due("end", x.end(far), false);
        CHECK.due("law", x.law(far), false);
        CHECK.due("play", x.play(far, 1, 0, 1), NONE);
        CHECK.due("play", x.play(0, 1, far, 1), NONE);
        CHECK.due("play", x.play(0, far, 1, 1), NONE);
        CHECK.due("play", x.play(0, 1, 1, far), NONE);
        CHECK.due("swap", x.swap(far, 0), NONE);
        CHECK.due("swap", x.swap(0, far), NONE);
        CHECK.due("swap", x.swap(far, far), NONE);
        CHECK.due("give", x.give(far, 0), NONE);
        CHECK.due("give", x.give(0, far), NONE);
        CHECK.due("chip", x.chip(far), NONE);
        CHECK.due("swallow", x.swallow(far), NONE);
        CHECK.due("days", x.days(far), NONE);
        CHECK.due("spills", x.spills(far), false);
        CHECK.due("years", x.years(far, far), NONE);
        CHECK.due("status", x.status(far), NONE);
        CHECK.due("seen", x.seen(far, 0, true), NONE);
        CHECK.due("seen", x.seen(0, far, true), NONE);
    }

    private static void refusedQuestions(WeatherMarbles x, int far) {
        CHECK.due("rule", x.rule(far), NONE);
        CHECK.due("boy", Check.boyThrows(x, far, 0), true);
        CHECK.due("boy", Check.boyThrows(x, 0, far), true);
        CHECK.due("marble", x.marble(far, 0), HIDDEN);
        CHECK.due("marble", x.marble(0, far), HIDDEN);
        CHECK.due("farm", x.farm(far, 0), NONE);
        CHECK.due("farm", x.farm(0, far), NONE);
        CHECK.due("log", x.log(far, 0), NONE);
        CHECK.due("log", x.log(0, far), NONE);
        CHECK.due("weather", x.weather(far), HIDDEN);
        CHECK.due("spell", x.spell(far, 0), NONE);
        CHECK.due("spell", x.spell(0, far), NONE);
        CHECK.due("arrange", x.arrange(far), NONE);
        CHECK.due("who", x.who(far), NONE);
        CHECK.due("corner", x.corner(far), NONE);
        CHECK.due("liking", x.liking(far, 0), NONE);
        CHECK.due("liking", x.liking(0, far), NONE);
        CHECK.due("trades", x.trades(far), NONE);
        CHECK.due("shares", x.shares(far, 0), NONE);
        CHECK.due("shares", x.shares(0, far), NONE);
        CHECK.due("saves", x.saves(far), NONE);
        CHECK.due("hands", x.hands(far), NONE);
        CHECK.due("most", x.most(far), NONE);
        CHECK.due("count", x.count(far), HIDDEN);
    }

    private static void refusedGames(WeatherMarbles x, int far) {
        CHECK.due("lands", x.lands(far, 0, 1), NONE);
        CHECK.due("lands", x.lands(0, far, 1), NONE);
        CHECK.due("lands", x.lands(0, 0, far), NONE);
        CHECK.due("aim", x.aim(far, 0), NONE);
        CHECK.due("aim", x.aim(0, far), NONE);
        CHECK.due("wins", x.wins(far, 1, 0, 1), HIDDEN);
        CHECK.due("wins", x.wins(0, far, 1, 1), HIDDEN);
        CHECK.due("wins", x.wins(0, 1, far, 1), HIDDEN);
        CHECK.due("wins", x.wins(0, 1, 1, far), HIDDEN);
        CHECK.due("game", x.game(far, 1, 0, 1, 0), HIDDEN);
        CHECK.due("game", x.game(0, far, 1, 1, 0), HIDDEN);
        CHECK.due("game", x.game(0, 1, far, 1, 0), HIDDEN);
        CHECK.due("game", x.game(0, 1, 1, far, 0), HIDDEN);
        CHECK.due("game", x.game(0, 1, 1, 1, far), HIDDEN);
        CHECK.due("rests", x.rests(far, 0, NONE), NONE);
        CHECK.due("rests", x.rests(0, far, NONE), NONE);
        CHECK.due("rests", x.rests(0, 1, far), NONE);
        CHECK.due("odds", x.odds(far, 1, 0, 1, 0), NONE);
        CHECK.due("odds", x.odds(0, far, 1, 1, 0), NONE);
        CHECK.due("odds", x.odds(0, 1, far, 1, 0), NONE);
        CHECK.due("odds", x.odds(0, 1, 1, far, 0), NONE);
        CHECK.due("odds", x.odds(0, 1, 1, 1, far), NONE);
    }

    /** All numbers about the bounds, on an object without a YARD: each answers as told there. */
    private static void withoutYard() {
        CHECK.said(1, "No YARD.");
        WeatherMarbles x = new WeatherMarbles();
        for (int i : new int[] {-1, 0, 1, 5, 6, 9, 10}) {
            CHECK.due("wins", x.wins(0, i, 1, i), HIDDEN);
            CHECK.due("game", x.game(0, i, 1, i, 0), HIDDEN);
            CHECK.due("weather", x.weather(i), HIDDEN);
            CHECK.due("marble", x.marble(i, 0), HIDDEN);
            CHECK.due("log", x.log(i, 0), NONE);
            CHECK.due("lands", x.lands(i, i, 1), NONE);
            CHECK.due("aim", x.aim(i, i), NONE);
            CHECK.due("spell", x.spell(i, i), NONE);
            CHECK.due("arrange", x.arrange(i), NONE);
            CHECK.due("seen", x.seen(i, i, false), NONE);
            CHECK.due("who", x.who(i), NONE);
            CHECK.due("best", x.best(), NONE);
            CHECK.due("rests", x.rests(0, 1, i), NONE);
            CHECK.due("corner", x.corner(i), NONE);
            CHECK.due("liking", x.liking(i, i), NONE);
            CHECK.due("trades", x.trades(i), NONE);
            CHECK.due("odds", x.odds(0, 1, 1, 1, i), NONE);
            CHECK.due("shares", x.shares(i, i), NONE);
            CHECK.due("pays", x.pays(), NONE);
            CHECK.due("saves", x.saves(i), NONE);
            CHECK.due("hands", x.hands(i), NONE);
            CHECK.due("most", x.most(i), NONE);
            CHECK.due("image", x.image(), NONE);
            CHECK.due("back", x.back(), NONE);
            CHECK.due("undo", x.undo(), NONE);
            CHECK.due("years", x.years(i, i), NONE);
        }
        CHECK.due("no status by these", Snapshot.status(x).equals("0 0 0 0 0 "), true);
        CHECK.due("still new", Snapshot.of(x).equals(Snapshot.of(new WeatherMarbles())), true);
    }
}
