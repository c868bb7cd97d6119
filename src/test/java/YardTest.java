/** Promises 6 to 9 and 44: what a YARD tells, and counts. */
public final class YardTest {
    private static final Check CHECK = new Check();

    public static void main(String[] args) {
        rules();
        boys();
        marbles();
        farms();
        counts();
        CHECK.finish();
    }

    private static void rules() {
        WeatherMarbles usual = Check.yard("b;m");
        WeatherMarbles told = Check.yard("b;m;sr9c99l30");
        CHECK.due("hole", usual.rule(0), 12);
        CHECK.due("drain", usual.rule(1), 3);
        CHECK.due("sweets", usual.rule(2), 10);
        CHECK.due("hole", told.rule(0), 30);
        CHECK.due("drain", told.rule(1), 9);
        CHECK.due("sweets", told.rule(2), 99);
        CHECK.due("no such what", told.rule(3), -1);
        CHECK.due("no such what", told.rule(-1), -1);
        CHECK.due("no yard", new WeatherMarbles().rule(0), -1);
        WeatherMarbles some = Check.yard("sc0;b;mo0s4;b");
        CHECK.due("sweets", some.rule(2), 0);
        CHECK.due("hole", some.rule(0), 12);
        WeatherMarbles spent = Check.yard("b;b;mo0s4");
        spent.give(0, 1);
        CHECK.due("sweets now", spent.rule(2), 6);
    }

    private static void boys() {
        WeatherMarbles x = Check.yard("b;mo1;bk9p8;mo1;bp3;mo0");
        CHECK.due("usual skill", x.boy(0, 0), 5);
        CHECK.due("usual place", x.boy(0, 1), 0);
        CHECK.due("skill", x.boy(1, 0), 9);
        CHECK.due("place", x.boy(1, 1), 8);
        CHECK.due("place", x.boy(2, 1), 3);
        CHECK.due("marbles", x.boy(0, 2), 1);
        CHECK.due("marbles", x.boy(1, 2), 2);
        CHECK.due("marbles", x.boy(2, 2), 0);
        CHECK.due("no such what", Check.boyThrows(x, 0, 3), true);
        CHECK.due("no such what", Check.boyThrows(x, 0, -1), true);
        CHECK.due("no such boy", Check.boyThrows(x, 3, 0), true);
        CHECK.due("no such boy", Check.boyThrows(x, -1, 0), true);
        CHECK.due("no yard", Check.boyThrows(new WeatherMarbles(), 0, 0), true);
        x.swallow(0);
        CHECK.due("with a swallowed one", x.boy(1, 2), 2);
    }

    private static void marbles() {
        WeatherMarbles x = Check.yard("sl3r1;b;b;mo1w5s9;m");
        CHECK.due("owner", x.marble(0, 0), 1);
        CHECK.due("kind", x.marble(0, 1), 5);
        CHECK.due("size", x.marble(0, 2), 9);
        CHECK.due("usual owner", x.marble(1, 0), 0);
        CHECK.due("usual kind", x.marble(1, 1), 0);
        CHECK.due("usual size", x.marble(1, 2), 3);
        CHECK.due("chipped", x.marble(0, 3), 0);
        CHECK.due("swallowed", x.marble(0, 4), 0);
        x.chip(0);
        CHECK.due("chipped", x.marble(0, 3), 1);
        CHECK.due("another", x.marble(1, 3), 0);
        x.play(0, 9, 1, 1);
        CHECK.due("owner of a drained one", x.marble(0, 0), -1);
        CHECK.due("a drained one is chipped still", x.marble(0, 3), 1);
        CHECK.due("its size", x.marble(0, 2), 9);
        x.swallow(1);
        CHECK.due("swallowed", x.marble(1, 4), 1);
        CHECK.due("its owner", x.marble(1, 0), 0);
        CHECK.due("no such what", x.marble(0, 5), -1000000);
        CHECK.due("no such what", x.marble(0, -1), -1000000);
        CHECK.due("no such marble", x.marble(2, 0), -1000000);
        CHECK.due("no such marble", x.marble(-1, 0), -1000000);
    }

    private static void farms() {
        WeatherMarbles x = Check.yard("bp4;mw3s2;fp4w3n9;f;fp4w2;fp9w3n0");
        CHECK.due("place", x.farm(0, 0), 4);
        CHECK.due("kind", x.farm(0, 1), 3);
        CHECK.due("pays", x.farm(0, 2), 9);
        CHECK.due("content", x.farm(0, 3), 1);
        CHECK.due("usual place", x.farm(1, 0), 0);
        CHECK.due("usual kind", x.farm(1, 1), 0);
        CHECK.due("usual pay", x.farm(1, 2), 2);
        CHECK.due("no weather at all", x.farm(1, 3), 0);
        CHECK.due("one behind others", Check.yard("b;mw1;f;fw1").farm(1, 3), 1);
        CHECK.due("another weather", x.farm(2, 3), 0);
        CHECK.due("pays none", x.farm(3, 2), 0);
        CHECK.due("no such what", x.farm(0, 4), -1);
        CHECK.due("no such what", x.farm(0, -1), -1);
        CHECK.due("no such farm", x.farm(4, 0), -1);
        CHECK.due("no such farm", x.farm(-1, 0), -1);
        CHECK.due("no yard", new WeatherMarbles().farm(0, 0), -1);
        x.chip(0);
        CHECK.due("no strength left", x.farm(0, 3), 0);
    }

    private static void counts() {
        WeatherMarbles x = Check.yard("sl3r1;b;b;b;bp1;mo0;mo1w1s9;mo2;m;m;f;fw1;fw1p1");
        Check.feed(x, "y:p;");
        int[] due = {5, 4, 3, 0, 4, -1, 0, 1, 0, 0, 0, 0, 0};
        due[7] = 1; // 12 of kind 0 against 9 of kind 1 at place 0
        for (int what = 0; what < 13; what++) {
            CHECK.due("count " + what, x.count(what), due[what]);
        }
        x.end(3);
        x.text(1);
        x.law(0);
        x.spills(7);
        x.seen(0, 0, true);
        x.seen(0, 0, true);
        x.play(0, 9, 2, 4);
        x.days(2);
        due = new int[] {5, 4, 3, 1, 0, 0, 2, 2, 5, 7, 2, 2, 3};
        for (int what = 0; what < 13; what++) {
            CHECK.due("count " + what, x.count(what), due[what]);
        }
        CHECK.due("no such what", x.count(13), -1000000);
        CHECK.due("no such what", x.count(-1), -1000000);
        CHECK.due("no such what", x.count(Integer.MAX_VALUE), -1000000);
    }
}
