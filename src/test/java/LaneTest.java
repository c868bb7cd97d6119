/** Promises 22 to 24, 31, 32, 36 and the CHAMPION of 41: where one comes to lie, the best power, who wins, odds. */
public final class LaneTest {
    private static final Check CHECK = new Check();
    // boy 0: 2p + 1 with his marble; boy 1: 2p + 3, 2p + 4; boy 2: 2p - 2; the hole 12, the drain 15
    private static final String YARD = "b;bk9p1;bk2p1;mo0w1s5;mo1w2s3;mo1w1s2;mo2s9";

    public static void main(String[] args) {
        lands();
        aims();
        wins();
        rivals();
        rests();
        restsOfAll();
        odds();
        oddsAtTheEdges();
        champions();
        apart();
        CHECK.finish();
    }

    /** By y:p the cell is the power; the hole 5, the drain 8; one marble each. */
    private static WeatherMarbles plain() {
        WeatherMarbles x = Check.yard("sl5r3;b;b;mo0s4;mo1s7");
        Check.holds(x, "y:p");
        return x;
    }

    private static void lands() {
        WeatherMarbles x = Check.yard(YARD);
        CHECK.due("lands", x.lands(0, 0, 5), 11);
        CHECK.due("lands", x.lands(1, 1, 5), 13);
        CHECK.due("lands", x.lands(1, 2, 9), 22);
        CHECK.due("lands", x.lands(2, 3, 1), 0);
        CHECK.due("another's", x.lands(0, 3, 4), 7);
    }

    private static void aims() {
        WeatherMarbles x = Check.yard(YARD);
        CHECK.due("11 and 13: the least", x.aim(0, 0), 5);
        CHECK.due("12", x.aim(1, 2), 4);
        CHECK.due("12", x.aim(2, 3), 7);
        CHECK.due("another's: 11", x.aim(0, 3), 6);
        CHECK.due("no such boy", x.aim(3, 0), -1);
        CHECK.due("no such boy", x.aim(-1, 0), -1);
        CHECK.due("no such marble", x.aim(0, 4), -1);
        CHECK.due("no such marble", x.aim(0, -1), -1);
        CHECK.due("no yard", new WeatherMarbles().aim(0, 0), -1);
        x.swallow(0);
        CHECK.due("a swallowed one", x.aim(0, 0), 5);
        x.play(2, 9, 3, 1);
        CHECK.due("a drained one", x.aim(1, 2), 4);
        WeatherMarbles near = Check.yard("sl3r1;bk9;m;ms9");
        CHECK.due("5 at least: always into the drain", near.aim(0, 0), -1);
        CHECK.due("3", near.aim(0, 1), 1);
        Check.holds(near, "y:p=1?60;y:p=2?0;y:p=3?4;y:p=4?2;y:p=5?3;y:3");
        CHECK.due("3 by 5 and by more", near.aim(0, 0), 5);
        Check.holds(near, "y:4");
        CHECK.due("the drain", near.aim(0, 0), -1);
        Check.holds(near, "y:0");
        CHECK.due("all alike", near.aim(0, 0), 1);
        Check.lay(near, "sl30r9;b;m");
        near.law(-1);
        CHECK.due("as far as he can", near.aim(0, 0), 9);
    }

    private static void wins() {
        WeatherMarbles x = Check.yard(YARD);
        CHECK.due("11 and 13", x.wins(0, 5, 1, 5), 0);
        CHECK.due("11 and 12", x.wins(0, 5, 2, 4), 2);
        CHECK.due("12 and 11", x.wins(2, 4, 0, 5), 1);
        CHECK.due("13 and 10", x.wins(0, 6, 3, 6), 1);
        CHECK.due("15 and 12", x.wins(0, 7, 2, 4), 0);
        CHECK.due("12 and 16", x.wins(2, 4, 3, 9), 0);
        CHECK.due("both gone", x.wins(0, 9, 1, 9), 0);
        CHECK.due("14 and 11", x.wins(3, 8, 0, 5), 2);
        CHECK.due("his own both", x.wins(1, 1, 2, 1), -1000000);
        CHECK.due("alike", x.wins(0, 1, 0, 1), -1000000);
        CHECK.due("power", x.wins(0, 0, 1, 1), -1000000);
        CHECK.due("power", x.wins(0, 1, 1, 10), -1000000);
        CHECK.due("no such", x.wins(0, 1, 4, 1), -1000000);
        CHECK.due("no such", x.wins(-1, 1, 0, 1), -1000000);
        x.swallow(3);
        CHECK.due("swallowed", x.wins(0, 1, 3, 1), -1000000);
        x.play(0, 9, 1, 1);
        CHECK.due("drained", x.wins(0, 1, 1, 1), -1000000);
        CHECK.due("no status", x.status(0) + x.status(1) + x.status(2), 0);
    }

    private static void rivals() {
        WeatherMarbles x = plain();
        CHECK.due("wins it", x.game(0, 5, 1, 4, 0), 7);
        CHECK.due("loses it", x.game(0, 5, 1, 4, 1), -7);
        CHECK.due("loses it", x.game(0, 1, 1, 4, 0), -4);
        CHECK.due("wins it", x.game(0, 1, 1, 4, 1), 4);
        CHECK.due("as near", x.game(0, 4, 1, 6, 0), 0);
        CHECK.due("as near", x.game(0, 4, 1, 6, 1), 0);
        CHECK.due("drained", x.game(0, 8, 1, 6, 0), -4);
        CHECK.due("the other is", x.game(0, 8, 1, 6, 1), 0);
        CHECK.due("both", x.game(0, 8, 1, 9, 0), -4);
        CHECK.due("both", x.game(0, 8, 1, 9, 1), -7);
        CHECK.due("no such what", x.game(0, 1, 1, 1, 2), -1000000);
        CHECK.due("no such what", x.game(0, 1, 1, 1, -1), -1000000);
        CHECK.due("alike", x.game(0, 1, 0, 1, 0), -1000000);
        CHECK.due("power", x.game(0, 1, 1, 0, 0), -1000000);
        CHECK.due("no such", x.game(0, 1, 2, 1, 0), -1000000);
        x.chip(0);
        CHECK.due("its size, chipped or not", x.game(0, 8, 1, 6, 0), -4);
        x.give(0, 1);
        CHECK.due("his own both", x.game(0, 1, 1, 1, 0), -1000000);
    }

    private static void rests() {
        WeatherMarbles x = Check.yard(YARD);
        CHECK.due("the hole by 4 wins against all", x.rests(0, 2, -1), 9);
        for (int i = 0; i < 9; i++) {
            CHECK.due("rests " + i, x.rests(0, 2, i), 10 * (i + 1) + 4);
            CHECK.due("the other way round " + i, x.rests(2, 0, i), 40 + i + 1);
        }
        CHECK.due("beyond", x.rests(0, 2, 9), -1);
        CHECK.due("ahead", x.rests(0, 2, -2), -1);
        CHECK.due("both into the hole", plain().rests(0, 1, -1), 1);
        CHECK.due("both into the hole", plain().rests(0, 1, 0), 55);
        CHECK.due("alike", x.rests(0, 0, -1), -1);
        CHECK.due("his own both", x.rests(1, 2, -1), -1);
        CHECK.due("no such", x.rests(0, 4, -1), -1);
        CHECK.due("no such", x.rests(-1, 0, -1), -1);
        CHECK.due("no yard", new WeatherMarbles().rests(0, 1, -1), -1);
        x.swallow(0);
        CHECK.due("swallowed", x.rests(0, 2, -1), -1);
        x.play(2, 9, 3, 1);
        CHECK.due("drained", x.rests(2, 3, -1), -1);
    }

    private static void restsOfAll() {
        WeatherMarbles x = plain();
        Check.holds(x, "y:3");
        CHECK.due("all powers alike", x.rests(0, 1, -1), 81);
        CHECK.due("the first", x.rests(0, 1, 0), 11);
        CHECK.due("the tenth", x.rests(0, 1, 9), 21);
        CHECK.due("the last", x.rests(0, 1, 80), 99);
        CHECK.due("beyond", x.rests(0, 1, 81), -1);
        Check.holds(x, "y:9");
        CHECK.due("all drained", x.rests(0, 1, -1), 81);
        // the boy with more skill always beats the other
        WeatherMarbles none = Check.yard("sl5r3;bk1;bk2;mo0s4;mo1s7");
        Check.holds(none, "y:p<5?k;y:8");
        CHECK.due("2 beats 1, and 8 is the drain", none.rests(0, 1, -1), 36);
        CHECK.due("the first", none.rests(0, 1, 0), 11);
        CHECK.due("lost or gone is the same to him", none.rests(0, 1, 35), 94);
    }

    private static void odds() {
        WeatherMarbles x = Check.yard(YARD);
        CHECK.due("sure to lose", x.odds(0, 5, 2, 4, 0), 0);
        CHECK.due("sure to win", x.odds(2, 4, 0, 5, 0), 1000000000);
        CHECK.due("12 against 11 or 13", x.odds(0, 5, 2, 4, 50), 125000000);
        CHECK.due("by 10", x.odds(0, 5, 1, 4, 10), 92500000);
        CHECK.due("by 1", x.odds(0, 5, 1, 4, 1), 9925000);
        CHECK.due("alike", x.odds(0, 5, 0, 4, 1), -1);
        CHECK.due("his own both", x.odds(1, 5, 2, 4, 1), -1);
        CHECK.due("power", x.odds(0, 0, 2, 4, 1), -1);
        CHECK.due("power", x.odds(0, 1, 2, 10, 1), -1);
        CHECK.due("no such", x.odds(4, 1, 2, 1, 1), -1);
        CHECK.due("chance", x.odds(0, 5, 2, 4, 101), -1);
        CHECK.due("chance", x.odds(0, 5, 2, 4, -1), -1);
        CHECK.due("no yard", new WeatherMarbles().odds(0, 1, 1, 1, 0), -1);
        x.swallow(0);
        CHECK.due("swallowed", x.odds(0, 5, 2, 4, 1), -1);
    }

    private static void oddsAtTheEdges() {
        WeatherMarbles x = plain();
        CHECK.due("7 by one more is gone", x.odds(0, 7, 1, 2, 100), 500000000);
        CHECK.due("the other's may be gone", x.odds(0, 4, 1, 7, 100), 250000000);
        CHECK.due("gone at first, one short is not", x.odds(0, 8, 1, 1, 100), 500000000);
        CHECK.due("the rest goes far: 4 or 6 against 3 or 5", x.odds(0, 5, 1, 4, 100), 500000000);
        // right (670) against short or right (835), wrong (330) against short (165)
        CHECK.due("by 33", x.odds(0, 5, 1, 4, 33), 613900000);
        Check.holds(x, "y:0");
        CHECK.due("0 can't be short", x.odds(0, 1, 1, 1, 10), 47500000);
        CHECK.due("all wrong: 1 against 0", x.odds(0, 1, 1, 1, 100), 250000000);
    }

    private static void champions() {
        WeatherMarbles x = Check.yard(YARD);
        CHECK.due("boy 1 by his greatest is 1 off, boy 2 in the hole", x.most(3), 2);
        x.swallow(3);
        CHECK.due("boy 0 by 11, boy 1 by 11: the lowest", x.most(3), 0);
        x.swallow(0);
        CHECK.due("boy 1", x.most(3), 1);
        x.swallow(1);
        CHECK.due("boy 1 with the other", x.most(3), 1);
        x.swallow(2);
        CHECK.due("none could", x.most(3), -1);
        WeatherMarbles y = Check.yard("sl3r1;bk9;bk1;mo0s2;mo0s9;mo0s8;mo1");
        CHECK.due("his greatest comes into the hole", y.most(3), 0);
        y.swallow(1);
        CHECK.due("his next one is always drained", y.most(3), 1);
        WeatherMarbles z = Check.yard("bk1;bk8;b;mo1s6;mo1s6;mo0s9");
        Check.holds(z, "y:s");
        CHECK.due("9 is nearer than 6", z.most(3), 0);
        Check.holds(z, "y:c=1?12;y:11");
        z.chip(1);
        CHECK.due("of several the lowest marble", z.most(3), 0);
        z.chip(0);
        CHECK.due("that one in the hole", z.most(3), 1);
    }

    private static void apart() {
        WeatherMarbles x = Check.yard(YARD);
        x.lands(0, 0, 9);
        x.wins(0, 9, 1, 9);
        x.game(0, 9, 1, 9, 0);
        x.rests(0, 1, -1);
        x.odds(0, 9, 1, 9, 9);
        CHECK.due("nothing drained", x.count(8), 0);
        CHECK.due("no act", x.count(12), 0);
    }
}
