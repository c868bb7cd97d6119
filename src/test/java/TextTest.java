/** Promises 1 to 5: the TAPE, FAULTS, and texts taken as a YARD or a LAW. */
public final class TextTest {
    private static final Check CHECK = new Check();

    public static void main(String[] args) {
        newObject();
        feeding();
        ending();
        yardFaults();
        yardNumberFaults();
        yardTooMany();
        lawFaults();
        lawConditionFaults();
        lawDepth();
        takingYards();
        takingLaws();
        CHECK.finish();
    }

    private static void newObject() {
        WeatherMarbles x = new WeatherMarbles();
        for (int what = 0; what <= 12; what++) {
            CHECK.due("count " + what + " of a new object", x.count(what), what == 5 ? -1 : 0);
        }
        CHECK.due("rule", x.rule(0), -1);
        CHECK.due("marble", x.marble(0, 0), -1000000);
        CHECK.due("boy", Check.boyThrows(x, 0, 0), true);
        CHECK.due("farm", x.farm(0, 0), -1);
        for (int what = 0; what < 5; what++) {
            CHECK.due("status " + what, x.status(what), 0);
        }
    }

    private static void feeding() {
        WeatherMarbles x = new WeatherMarbles();
        CHECK.due("feed nothing", x.feed(0, 0, 0, 0, 0), 0);
        // "b;m" with bytes of 0 strewn in, the highest byte first
        CHECK.due("feed", x.feed('b' << 16, ';', 0, 'm' << 24, 0), 3);
        CHECK.due("its fault", x.fault(0), -1);
        x.end(0);
        CHECK.due("feed the other way round", x.feed('m' | ';' << 8 | 'b' << 16, 0, 0, 0, 0), 3);
        CHECK.due("its fault", x.fault(0), -1);
        x.end(0);
        for (int i = 1; i <= 11; i++) {
            CHECK.due("feed 20 more", x.feed(0x20202020, 0x20202020, 0x20202020, 0x20202020, 0x20202020), 20 * i);
        }
        CHECK.due("feed 19", x.feed(0x20202020, 0x20202020, 0x20202020, 0x20202020, 0x00202020), 239);
        CHECK.due("feed 2 of 241", x.feed(0, 0x20000020, 0, 0, 0), -1);
        CHECK.due("still", x.count(4), 239);
        CHECK.due("feed none", x.feed(0, 0, 0, 0, 0), 239);
        CHECK.due("feed 2 of 241", x.feed(0, 0, 0x20000020, 0, 0), -1);
        CHECK.due("feed 2 of 241", x.feed(0, 0, 0, 0x20000020, 0), -1);
        CHECK.due("feed 2 of 241", x.feed(1, 0, 0, 0, 1), -1);
        CHECK.due("feed 1 of 240", x.feed(0, 0x20, 0, 0, 0), 240);
        CHECK.due("feed none of 240", x.feed(0, 0, 0, 0, 0), 240);
        CHECK.due("feed 1 of 241", x.feed(0, 0, 0, 0, 1), -1);
        CHECK.due("all blanks", x.fault(0), 240);
        CHECK.due("all blanks", x.fault(1), 240);
        x.end(0);
        CHECK.due("a byte of 255", x.feed(-1, 0, 0, 0, 0), 4);
        CHECK.due("its fault", x.fault(0), 0);
        CHECK.due("its fault", x.fault(1), 0);
    }

    private static void ending() {
        WeatherMarbles x = new WeatherMarbles();
        CHECK.due("end of nothing", x.end(0), true);
        CHECK.due("end beyond", x.end(1), false);
        Check.feed(x, "b;m;q");
        CHECK.due("end beyond", x.end(6), false);
        CHECK.due("end ahead", x.end(-1), false);
        CHECK.due("end far", x.end(Integer.MIN_VALUE), false);
        CHECK.due("still", x.count(4), 5);
        CHECK.due("end at its length", x.end(5), true);
        CHECK.due("fault", x.fault(0), 4);
        CHECK.due("end", x.end(3), true);
        CHECK.due("fault", x.fault(0), -1);
        CHECK.due("not longer again", x.end(4), false);
        Check.feed(x, "w2");
        CHECK.due("fed behind it", x.count(4), 5);
        CHECK.due("fault", x.fault(0), -1);
    }

    private static void yardFault(String text, int due) {
        CHECK.due("fault of <" + text + ">", Check.fault(0, text), due);
    }

    private static void yardFaults() {
        CHECK.due("no such sort", Check.fault(2, "b;m"), -2);
        CHECK.due("no such sort", Check.fault(-1, "b;m"), -2);
        yardFault("", 0);
        yardFault("  ", 2);
        yardFault("b;m", -1);
        yardFault("m;b", -1);
        yardFault(" b ; m ", -1);
        yardFault("f;m;s;b", -1);
        yardFault("b", 1);
        yardFault("b ", 2);
        yardFault("m", 1);
        yardFault("s;f", 3);
        yardFault("b;m;", 4);
        yardFault("b;m; ", 5);
        yardFault("b;;m", 2);
        yardFault(";b;m", 0);
        yardFault("b,m", 1);
        yardFault("b m", 2);
        yardFault("B;m", 0);
        yardFault("b;m\t", 3);
        yardFault("y:p", 0);
        yardFault("bk;m", 2);
        yardFault("bk", 2);
        yardFault("bk ", 3);
        yardFault("b k 5 p 9;m", -1);
        yardFault("b p9k5;m", -1);
        yardFault("bk5k5;m", 3);
        yardFault("bk5p1k5;m", 5);
        yardFault("bp1p1;m", 3);
        yardFault("sl9l9;b;m", 3);
        yardFault("sr9r9;b;m", 3);
        yardFault("sc9c9;b;m", 3);
        yardFault("b;mo0o0", 5);
        yardFault("b;mw1w1", 5);
        yardFault("b;ms1s1", 5);
        yardFault("b;ms1w1o0s1", 9);
        yardFault("b;m;fp1p1", 7);
        yardFault("b;m;fw1w1", 7);
        yardFault("b;m;fn1n1", 7);
        yardFault("b;m;fn1;fn1", -1);
        yardFault("bo0;m", 1);
        yardFault("bw0;m", 1);
        yardFault("b;mp0", 3);
        yardFault("b;mn0", 3);
        yardFault("b;m;fs1", 5);
        yardFault("b;m;fo0", 5);
        yardFault("sk1;b;m", 1);
        yardFault("b;m;sl3r1c0", -1);
        yardFault("b;mo0", -1);
        yardFault("b;mo1", 5);
        yardFault("b;mo1 ", 6);
        yardFault("b;mo1;b", -1);
        yardFault("mo4;b;b;b;b;b", -1);
        yardFault("mo4;b;b;b;b", 11);
        yardFault("mo4;b;b;b;b;x", 12);
        yardFault("b5;m", 1);
        yardFault("b-;m", 1);
        yardFault("bk-1;m", 2);
    }

    private static void yardNumberFaults() {
        yardFault("sl2;b;m", 2);
        yardFault("sl2", 2);
        yardFault("sl02;b;m", 3);
        yardFault("sl3;b;m", -1);
        yardFault("sl03;b;m", -1);
        yardFault("sl30;b;m", -1);
        yardFault("sl31;b;m", 3);
        yardFault("sl31", 3);
        yardFault("sl312", 4);
        yardFault("sl3 0;b;m", 4);
        yardFault("sl300;b;m", 4);
        yardFault("sl000;b;m", 4);
        yardFault("sl99x", 3);
        yardFault("sr0;b;m", 2);
        yardFault("sr1;b;m", -1);
        yardFault("sr9;b;m", -1);
        yardFault("sr09;b;m", -1);
        yardFault("sr10;b;m", 3);
        yardFault("sc0;b;m", -1);
        yardFault("sc99;b;m", -1);
        yardFault("sc100;b;m", 4);
        yardFault("sc009;b;m", 4);
        yardFault("sc0009;b;m", 4);
        yardFault("bp000;m", 4);
        yardFault("bk0;m", 2);
        yardFault("bk00;m", 3);
        yardFault("bk1;m", -1);
        yardFault("bk9;m", -1);
        yardFault("bk10;m", 3);
        yardFault("bp0;m", -1);
        yardFault("bp9;m", -1);
        yardFault("bp10;m", 3);
        yardFault("b;mo5", 4);
        yardFault("b;mo4", 5);
        yardFault("b;mw5", -1);
        yardFault("b;mw6", 4);
        yardFault("b;ms0", 4);
        yardFault("b;ms1", -1);
        yardFault("b;ms9", -1);
        yardFault("b;ms10", 5);
        yardFault("b;m;fp9w5n9", -1);
        yardFault("b;m;fp10", 7);
        yardFault("b;m;fw6", 6);
        yardFault("b;m;fn10", 7);
        yardFault("b;m;fn0", -1);
        yardFault("b;m;fn123", 8);
        yardFault("b;mo55;x", 5);
        yardFault("b;mo555;x", 6);
    }

    private static void yardTooMany() {
        yardFault("s;b;m;s", 6);
        yardFault("s;s", 2);
        yardFault("b;b;b;b;b;m", -1);
        yardFault("b;b;b;b;b;m;b", 12);
        yardFault("b;m;m;m;m;m;m", -1);
        yardFault("b;m;m;m;m;m;m;m", 14);
        yardFault("b;m;f;f;f;f;f;f", -1);
        yardFault("b;m;f;f;f;f;f;f;f", 16);
        yardFault("b;m;f;f;f;f;f;f; f", 17);
    }

    private static void lawFault(String text, int due) {
        CHECK.due("fault of <" + text + ">", Check.fault(1, text), due);
    }

    private static void lawFaults() {
        lawFault("", 0);
        lawFault(" ", 1);
        lawFault("y", 1);
        lawFault("y:", 2);
        lawFault("y :", 3);
        lawFault("y:p", -1);
        lawFault(" y : p ", -1);
        lawFault("x", 0);
        lawFault("yp", 1);
        lawFault("y:x", 2);
        lawFault("y:-1", 2);
        lawFault("y:p+", 4);
        lawFault("y:p+-", 4);
        lawFault("y:p p", 4);
        lawFault("y:pk", 3);
        lawFault("y:2p", 3);
        lawFault("y:p2", 3);
        lawFault("y:p;", 4);
        lawFault("y:p;y:k", -1);
        lawFault("y:p;;", 4);
        lawFault("y:p;p", 4);
        lawFault("y:p*k/s-c+h*d", -1);
        lawFault("y:[p+k]*2", -1);
        lawFault("y:[]", 3);
        lawFault("y:[p", 4);
        lawFault("y:[p)", 4);
        lawFault("y:[p;", 4);
        lawFault("y:p]", 3);
        lawFault("y:9999", -1);
        lawFault("y:0000", -1);
        lawFault("y:10000", 6);
        lawFault("y:00000", 6);
        lawFault("y:1 0", 4);
        lawFault("y:9999 9", 7);
        lawFault("b;m", 0);
    }

    private static void lawConditionFaults() {
        lawFault("y:p=1", 5);
        lawFault("y:p=1?", 6);
        lawFault("y:p=1?2", -1);
        lawFault("y:p>1?2;y:p<3?4;y:5", -1);
        lawFault("y:p?1", 3);
        lawFault("y:p&k", 3);
        lawFault("y:p|k", 3);
        lawFault("y:p=1=1?2", 5);
        lawFault("y:p=1;", 5);
        lawFault("y:p=1)", 5);
        lawFault("y:p==1", 4);
        lawFault("y:p<>1", 4);
        lawFault("y:p=1&", 6);
        lawFault("y:p=1&k>2|s<3?1", -1);
        lawFault("y:p=1&k?1", 7);
        lawFault("y:p=1|k|s", 7);
        lawFault("y:p=1&&k", 6);
        lawFault("y:(p=1)?2", -1);
        lawFault("y:(p=1)", 7);
        lawFault("y:(p=1)+1", 7);
        lawFault("y:(p)", 4);
        lawFault("y:(p+1)*2", 6);
        lawFault("y:(p;", 4);
        lawFault("y:()", 3);
        lawFault("y:!p", 4);
        lawFault("y:!p=1?2", -1);
        lawFault("y:!p;", 4);
        lawFault("y:!(p=1|k=2)&s=3?p", -1);
        lawFault("y:!!p=1?2", -1);
        lawFault("y:p=1?2?", 7);
        lawFault("y:p=1?k=2", 7);
        lawFault("y:p=1?!", 6);
        lawFault("y:p=1?(", 6);
        lawFault("y:p=(k)", 4);
        lawFault("y:p=!k", 4);
        lawFault("y:[p=1]", 4);
        lawFault("y:[p]=[k]?[s]", -1);
        lawFault("y:p+(k)", 4);
        lawFault("y:p=1|!k=2?1", -1);
        lawFault("y:((p=1)|(k=2))&s=3?1", -1);
    }

    private static void lawDepth() {
        lawFault("y:[[[[[[p]]]]]]", -1);
        lawFault("y:[[[[[[[p]]]]]]]", 8);
        lawFault("y:[[[[[[p]]]]]]+[[[[[[k]]]]]]", -1);
        lawFault("y:((((((p=1))))))?2", -1);
        lawFault("y:(((((((p=1)))))))?2", 8);
        lawFault("y:!!!!!!p=1?2", -1);
        lawFault("y:!!!!!!!p=1?2", 8);
        lawFault("y:!(!(!(p=1)))?2", -1);
        lawFault("y:!(!(!(!p=1)))?2", 8);
        lawFault("y:!(!(!([p]=1)))?2", 8);
        lawFault("y:!(!(![p]=1))?2", -1);
        lawFault("y:!!!!!!p=[1]?2", 10);
        lawFault("y:!p=1&!!!!!!p=1?2", -1);
        lawFault("y:!p=1&!!!!!!!p=1?2", 13);
        lawFault("y:p=1?[[[[[[2]]]]]]", -1);
        lawFault("y:p=1?[[[[[[[2]]]]]]]", 12);
        lawFault("y:!(p=1)&!(p=2)&!(p=3)&!(p=4)&!(p=5)?2", -1);
        lawFault("y:!p=1|[[[[[[p]]]]]]=1?2", -1);
        lawFault("y:(p=1|[[[[[[p]]]]]]=1)?2", 12);
    }

    private static void takingYards() {
        WeatherMarbles x = new WeatherMarbles();
        CHECK.due("nothing told", x.text(0), -1);
        Check.feed(x, "b;m;m;m;f");
        CHECK.due("no such sort", x.text(2), -1);
        CHECK.due("no such sort", x.text(-1), -1);
        CHECK.due("not a law", x.text(1), -1);
        CHECK.due("the tape stays", x.count(4), 9);
        CHECK.due("a yard", x.text(0), 3);
        CHECK.due("the tape is empty", x.count(4), 0);
        CHECK.due("boys", x.count(1), 1);
        CHECK.due("farms", x.count(2), 1);
        Check.feed(x, "b;b;mo1;mo2");
        CHECK.due("a fault", x.text(0), -1);
        CHECK.due("the tape stays", x.count(4), 11);
        CHECK.due("the yard stays", x.count(0), 3);
        anotherYard();
    }

    private static void anotherYard() {
        WeatherMarbles x = Check.yard("b;bp1;m;ms9;f");
        Check.holds(x, "y:12");
        x.spills(4);
        x.seen(0, 0, true);
        x.days(3);
        x.chip(0);
        x.swallow(1);
        x.image();
        x.days(0);
        Check.lay(x, "sc5l20r9;b;m");
        CHECK.due("laws", x.count(3), 1);
        CHECK.due("which holds", x.count(5), 0);
        CHECK.due("day", x.count(6), 0);
        CHECK.due("farms", x.count(2), 0);
        CHECK.due("boys", x.count(1), 1);
        CHECK.due("spills", x.count(9), 4);
        CHECK.due("seen", x.count(10), 0);
        CHECK.due("log", x.count(11), 0);
        CHECK.due("acts", x.count(12), 0);
        CHECK.due("undo", x.undo(), -1);
        CHECK.due("back", x.back(), -1);
        CHECK.due("log", x.log(0, 0), -1);
        CHECK.due("status", x.status(1), 1);
        CHECK.due("sweets", x.rule(2), 5);
        CHECK.due("chipped", x.marble(0, 3), 0);
        CHECK.due("swallowed", x.marble(1, 4), -1000000);
        Check.lay(x, "b;m;m");
        CHECK.due("the usual hole again", x.rule(0), 12);
        CHECK.due("swallowed", x.marble(1, 4), 0);
        CHECK.due("the usual size again", x.marble(1, 2), 3);
    }

    private static void takingLaws() {
        WeatherMarbles x = new WeatherMarbles();
        for (int i = 0; i < 4; i++) {
            Check.feed(x, "y:" + i);
            CHECK.due("a law", x.text(1), i);
            CHECK.due("the tape is empty", x.count(4), 0);
        }
        CHECK.due("none holds", x.count(5), -1);
        Check.feed(x, "y:4");
        CHECK.due("a fifth", x.text(1), -1);
        CHECK.due("the tape stays", x.count(4), 3);
        CHECK.due("laws", x.count(3), 4);
        CHECK.due("no fault all the same", x.fault(1), -1);
        Check.lay0(x);
        for (int i = 0; i < 4; i++) {
            x.law(i);
            CHECK.due("by law " + i, x.lands(0, 0, 5), i);
        }
        WeatherMarbles y = new WeatherMarbles();
        Check.feed(y, "y:p=1");
        CHECK.due("a law with a fault", y.text(1), -1);
        CHECK.due("the tape stays", y.count(4), 5);
    }
}
