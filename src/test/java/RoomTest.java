import java.lang.management.ManagementFactory;

/** All calls of a run share one room: an object is small, and no call (but one that throws) makes anything. */
public final class RoomTest {
    private static final Check CHECK = new Check();
    private static final com.sun.management.ThreadMXBean THREADS =
        (com.sun.management.ThreadMXBean) ManagementFactory.getThreadMXBean();

    public static void main(String[] args) {
        runOfCalls();
        long id = Thread.currentThread().getId();
        long[] marks = new long[3];
        marks[0] = THREADS.getThreadAllocatedBytes(id);
        WeatherMarbles x = new WeatherMarbles();
        marks[1] = THREADS.getThreadAllocatedBytes(id);
        calls(x);
        marks[2] = THREADS.getThreadAllocatedBytes(id);
        long object = marks[1] - marks[0];
        long calls = marks[2] - marks[1];
        System.out.println("an object has " + object + " bytes, its calls make " + calls);
        CHECK.due("an object is small", object < 16384, true);
        CHECK.due("calls make nothing", calls < 256, true);
        CHECK.finish();
    }

    /** Ahead of the measure, so that all classes are loaded. */
    private static void runOfCalls() {
        THREADS.getThreadAllocatedBytes(Thread.currentThread().getId());
        for (int i = 0; i < 20; i++) {
            calls(new WeatherMarbles());
        }
    }

    private static void calls(WeatherMarbles x) {
        // s;b;bp1;bp1;mw1;mo1s6;mo2w1;fp1w1;fp0
        x.feed(0x733b623b, 0x6270313b, 0x6270313b, 0x6d77313b, 0x6d6f3173);
        x.feed(0x363b6d6f, 0x3277313b, 0x66703177, 0x313b6670, 0x30000000);
        x.fault(0);
        x.fault(1);
        x.text(0);
        x.feed(0x793a703e, 0x333f702b, 0x6b3b793a, 0x32000000, 0); // y:p>3?p+k;y:2
        x.text(1);
        for (int i = 0; i < 20; i++) {
            x.law(i % 2 - 1);
            acts(x, i);
            questions(x, i);
        }
    }

    private static void acts(WeatherMarbles x, int i) {
        x.image();
        x.play(0, 1 + i % 9, 1, 5);
        x.swap(0, 1);
        x.give(0, 1);
        x.chip(i % 3);
        x.swallow(i % 3);
        x.days(7);
        x.spills(i % 10);
        x.years(9, i);
        x.undo();
        x.undo();
        x.seen(i % 10, i % 6, false);
        x.back();
    }

    private static void questions(WeatherMarbles x, int i) {
        x.rule(0);
        x.boy(0, 2);
        x.marble(0, 0);
        x.farm(0, 3);
        x.status(0);
        x.log(0, 0);
        x.lands(0, 0, 5);
        x.aim(0, 0);
        x.wins(0, 5, 1, 5);
        x.weather(0);
        x.spell(0, 0);
        x.arrange(0);
        x.who(-1);
        x.best();
        x.game(0, 5, 1, 5, 0);
        x.rests(0, 1, -1);
        x.corner(0);
        x.liking(0, 0);
        x.trades(-1);
        x.odds(0, 5, 1, 5, i);
        x.shares(0, i);
        x.pays();
        x.saves(100);
        x.hands(0);
        for (int what = 0; what < 13; what++) {
            x.most(what);
            x.count(what);
        }
    }
}
