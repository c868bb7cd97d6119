/** Promises 5, 10 and 22: what LAWS are worth, which holds, and where a flick comes to lie. */
public final class LawTest {
    private static final Check CHECK = new Check();

    public static void main(String[] args) {
        withoutLaw();
        choosing();
        sums();
        bounds();
        conditions();
        clauses();
        letters();
        longLaw();
        refused();
        CHECK.finish();
    }

    /** A boy of skill 7 flicks a marble of size 8 with power 6, by this law alone. */
    private static int worth(String law) {
        WeatherMarbles x = Check.yard("bk7;ms8;m");
        Check.holds(x, law);
        return x.lands(0, 0, 6);
    }

    private static void law(String law, int due) {
        CHECK.due("<" + law + ">", worth(law), due);
    }

    private static void withoutLaw() {
        WeatherMarbles x = Check.yard("bk7;bk1;bk2;ms8;ms9;ms2");
        CHECK.due("12 and 3 less 2", x.lands(0, 0, 6), 13);
        CHECK.due("18 and 3 less 0", x.lands(0, 2, 9), 21);
        CHECK.due("2 and 0 less 3", x.lands(1, 1, 1), 0);
        CHECK.due("4 and 0 less 3", x.lands(1, 1, 2), 1);
        CHECK.due("2 and 1 less 2", x.lands(2, 0, 1), 1);
    }

    private static void choosing() {
        WeatherMarbles x = Check.yard("b;m");
        CHECK.due("none yet", x.law(0), false);
        CHECK.due("none", x.law(-1), true);
        Check.feed(x, "y:20");
        x.text(1);
        CHECK.due("a law does not hold by itself", x.count(5), -1);
        CHECK.due("so the usual", x.lands(0, 0, 1), 3);
        CHECK.due("it holds", x.law(0), true);
        CHECK.due("it holds again", x.law(0), true);
        CHECK.due("which", x.count(5), 0);
        CHECK.due("by it", x.lands(0, 0, 1), 20);
        CHECK.due("no such one", x.law(1), false);
        CHECK.due("no such one", x.law(-2), false);
        CHECK.due("still", x.count(5), 0);
        CHECK.due("none", x.law(-1), true);
        CHECK.due("which", x.count(5), -1);
        CHECK.due("the usual again", x.lands(0, 0, 1), 3);
    }

    private static void sums() {
        law("y:7", 7);
        law("y:0042", 42);
        law("y:p+k*s", 60);
        law("y:p*2+k", 19);
        law("y:s-p-1", 1);
        law("y:s-[p-1]", 3);
        law("y:40/4/2", 5);
        law("y:40/[4/2]", 20);
        law("y:7/2*2", 6);
        law("y:2*7/2", 7);
        law("y:[p+k]*2", 26);
        law("y:1-3/2+10", 10);
        law("y:[1-8]/2+10", 7);
        law("y:10+7/[0-2]", 7);
        law("y:5/0", 0);
        law("y:5/[p-6]+3", 3);
        law("y: p + [ k ] * 2 ", 20);
    }

    private static void bounds() {
        law("y:61", 60);
        law("y:60", 60);
        law("y:0-5", 0);
        law("y:9999*9999/9999", 60);
        law("y:9999*9999-9999*100-60", 40);
        law("y:9999*9999/9000/2", 55);
        law("y:9999*9999+9999-9999*99-9999-50", 50);
        law("y:[0-9999]*9999/9999+110", 10);
        law("y:9999*100+999-9999*100-60", 40);
        law("y:[0-9999]*100-999+9999*100+130", 30);
    }

    private static void conditions() {
        law("y:p=6?1;y:2", 1);
        law("y:p=5?1;y:2", 2);
        law("y:p<6?1;y:2", 2);
        law("y:p<7?1;y:2", 1);
        law("y:p>6?1;y:2", 2);
        law("y:p>5?1;y:2", 1);
        law("y:!p=6?1;y:2", 2);
        law("y:!!p=6?1;y:2", 1);
        law("y:!p=6|k=7?1;y:2", 1);
        law("y:!(p=6|k=7)?1;y:2", 2);
        law("y:p=1|k=7?1;y:2", 1);
        law("y:p=1&k=7?1;y:2", 2);
        law("y:p=6|k=1&s=1?1;y:2", 1);
        law("y:(p=6|k=1)&s=1?1;y:2", 2);
        law("y:p=1&k=1|s=8?1;y:2", 1);
        law("y:p=1&(k=1|s=8)?1;y:2", 2);
        law("y:p+1=k?1;y:2", 1);
        law("y:[p+1]*2=k*2?1;y:2", 1);
        law("y:!(!(!(p=6)))?1;y:2", 2);
    }

    private static void clauses() {
        law("y:p=1?1", 0);
        law("y:p=1?1;y:k=1?2", 0);
        law("y:p=1?1;y:k=7?2;y:3", 2);
        law("y:4;y:5", 4);
        law("y:p=6?1;y:p=6?2", 1);
        law("y:p=1?1;y:3;y:p=6?2", 3);
    }

    private static void letters() {
        WeatherMarbles x = Check.yard("sl3r1;bk4;bk9;mo0s5;mo0s7;mo1s2;mo0s1");
        Check.holds(x, "y:p");
        Check.holds(x, "y:k");
        Check.holds(x, "y:s");
        Check.holds(x, "y:10*c+h+20*d");
        x.law(0);
        CHECK.due("p", x.lands(0, 0, 8), 8);
        x.law(1);
        CHECK.due("k", x.lands(1, 0, 8), 9);
        x.law(2);
        CHECK.due("s", x.lands(0, 1, 8), 7);
        x.law(3);
        CHECK.due("h of the boy, not of the owner", x.lands(1, 0, 1), 1);
        CHECK.due("h", x.lands(0, 2, 1), 3);
        x.chip(0);
        CHECK.due("c", x.lands(0, 0, 1), 13);
        CHECK.due("c of another", x.lands(0, 1, 1), 3);
        x.swallow(1);
        CHECK.due("h with a swallowed one", x.lands(0, 1, 1), 3);
        x.days(2);
        CHECK.due("d", x.lands(0, 1, 1), 43);
        x.law(0);
        x.play(3, 9, 2, 1);
        x.law(3);
        CHECK.due("h without a drained one", x.lands(0, 1, 1), 42);
        CHECK.due("a drained one lands", x.lands(0, 3, 1), 42);
    }

    private static void longLaw() {
        StringBuilder text = new StringBuilder("y:p");
        while (text.length() < 239) {
            text.append("+1");
        }
        law(text + " ", 60);
        text = new StringBuilder("y:0-60");
        while (text.length() < 239) {
            text.append("+1");
        }
        law(text.toString(), 57);
        law("y:p=1?1;".repeat(29) + "y:9", 9);
    }

    private static void refused() {
        WeatherMarbles x = Check.yard("b;m");
        CHECK.due("power 0", x.lands(0, 0, 0), -1);
        CHECK.due("power 10", x.lands(0, 0, 10), -1);
        CHECK.due("no such boy", x.lands(1, 0, 1), -1);
        CHECK.due("no such boy", x.lands(-1, 0, 1), -1);
        CHECK.due("no such marble", x.lands(0, 1, 1), -1);
        CHECK.due("no such marble", x.lands(0, -1, 1), -1);
        CHECK.due("no yard", new WeatherMarbles().lands(0, 0, 1), -1);
        CHECK.due("nothing of it is an act", x.count(12), 0);
        CHECK.due("nor counted", x.status(0) + x.status(1), 0);
    }
}
