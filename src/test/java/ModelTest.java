import java.util.NoSuchElementException;
import java.util.Random;

/** Long runs of random calls: the class answers as the model does, and nothing but the document's exception comes out. */
public final class ModelTest {
    private static final String YARD_SIGNS = "sbmflrckpown;0123456789 ";
    private static final String LAW_SIGNS = "y:?;|&!()[]=<>+-*/pkschd0123456789 ";
    private final Check check = new Check();
    private final Random random;
    private final RandomTexts texts;
    private WeatherMarbles x;
    private Model m;
    private int run;

    private ModelTest(long seed) {
        random = new Random(seed);
        texts = new RandomTexts(random);
    }

    public static void main(String[] args) {
        long seed = args.length > 0 ? Long.parseLong(args[0]) : 20261118L;
        int runs = args.length > 1 ? Integer.parseInt(args[1]) : 400;
        ModelTest test = new ModelTest(seed);
        test.compareTexts(runs * 15);
        for (test.run = 0; test.run < runs; test.run++) {
            test.oneRun();
        }
        test.check.finish();
    }

    private void due(String call, long got, long want) {
        check.due("run " + run + ": " + call, got, want);
    }

    private void fresh() {
        x = new WeatherMarbles();
        m = new Model();
    }

    private void feed(String text) {
        for (int i = 0; i < text.length(); i += 20) {
            int[] n = new int[5];
            for (int j = 0; j < 20 && i + j < text.length(); j++) {
                n[j / 4] |= (text.charAt(i + j) & 255) << 24 - 8 * (j % 4);
            }
            due("feed", x.feed(n[0], n[1], n[2], n[3], n[4]), m.feed(n));
        }
    }

    private void compareTexts(int n) {
        for (int i = 0; i < n; i++) {
            fresh();
            int sort = i & 1;
            String signs = sort == 0 ? YARD_SIGNS : LAW_SIGNS;
            String text = sort == 0 ? texts.yard() : texts.law();
            for (int slips = random.nextInt(3); slips > 0; slips--) {
                text = texts.slip(text, signs);
            }
            text = random.nextBoolean() ? texts.blanks(text, random.nextInt(4) == 0) : text;
            text = text.substring(0, Math.min(text.length(), 240));
            feed(text);
            due("fault of <" + text + "> as " + sort, x.fault(sort), m.fault(sort));
            due("fault of <" + text + "> as " + (1 - sort), x.fault(1 - sort), m.fault(1 - sort));
            due("text of <" + text + ">", x.text(sort), m.text(sort));
            due("tape", x.count(4), m.count(4));
        }
    }

    private void oneRun() {
        fresh();
        boolean longDays = run % 10 == 9;
        if (random.nextInt(10) > 0) {
            feed(texts.yard());
            due("text(0)", x.text(0), m.text(0));
        }
        for (int i = 0; i < 300; i++) {
            try {
                oneCall(longDays && random.nextInt(4) > 0 ? 15 : random.nextInt(47));
                compareState();
            } catch (RuntimeException e) {
                e.printStackTrace(System.out);
                due("an exception: " + e, 1, 0);
            }
        }
    }

    private void compareState() {
        for (int what = 0; what <= 12; what++) {
            due("count " + what, x.count(what), m.count(what));
        }
        for (int i = 0; i < 6; i++) {
            due("owner " + i, x.marble(i, 0), m.marble(i, 0));
            due("chipped " + i, x.marble(i, 3), m.marble(i, 3));
            due("swallowed " + i, x.marble(i, 4), m.marble(i, 4));
        }
        for (int what = 0; what < 5; what++) {
            due("status " + what, x.status(what), m.status(what));
        }
        due("sweets", x.rule(2), m.rule(2));
        int i = random.nextInt(60);
        due("log " + i, x.log(i, 0), m.log(i, 0));
        due("log " + i, x.log(i, 1), m.log(i, 1));
    }

    /** Mostly within 0 .. most, at times just out of it or far away. */
    private int about(int most) {
        switch (random.nextInt(60)) {
            case 0:
                return -1;
            case 1:
                return most + 1;
            case 2:
                return random.nextInt();
            case 3:
                return random.nextBoolean() ? Integer.MAX_VALUE : Integer.MIN_VALUE;
            default:
                return random.nextInt(most + 1);
        }
    }

    private int marble() {
        int marbles = x.count(0);
        return about(marbles > 0 ? marbles - 1 : 1);
    }

    private int boy() {
        int boys = x.count(1);
        return about(boys > 0 ? boys - 1 : 1);
    }

    private int power() {
        return random.nextInt(30) == 0 ? 0 : about(8) + 1;
    }

    private int which(int most) {
        return random.nextInt(3) == 0 ? -1 : about(most);
    }

    private void oneCall(int call) {
        if (call < 10) {
            textCall(call);
        } else if (call < 22) {
            actCall(call);
        } else {
            askCall(call);
        }
    }

    private void textCall(int call) {
        switch (call) {
            case 0:
                if (random.nextInt(12) == 0) {
                    feed(texts.blanks(texts.yard(), false));
                    due("text(0)", x.text(0), m.text(0));
                }
                break;
            case 1:
                feed(texts.blanks(texts.law(), false));
                due("text(1)", x.text(1), m.text(1));
                break;
            case 2: {
                int law = about(3);
                due("law " + law, x.law(law) ? 1 : 0, m.law(law) ? 1 : 0);
                break;
            }
            case 3: {
                int[] n = new int[5];
                for (int i = 0; i < 5; i++) {
                    n[i] = random.nextInt() & (random.nextBoolean() ? -1 : 0xff00ff00);
                }
                due("feed", x.feed(n[0], n[1], n[2], n[3], n[4]), m.feed(n));
                break;
            }
            case 4:
            case 5: {
                int n = call == 4 ? 0 : about(x.count(4));
                due("end " + n, x.end(n) ? 1 : 0, m.end(n) ? 1 : 0);
                break;
            }
            case 6: {
                int sort = about(2);
                due("fault " + sort, x.fault(sort), m.fault(sort));
                break;
            }
            case 7: {
                int sort = about(2);
                due("text " + sort, x.text(sort), m.text(sort));
                break;
            }
            default: {
                int v = about(9);
                due("spills " + v, x.spills(v) ? 1 : 0, m.spills(v) ? 1 : 0);
            }
        }
    }

    private void actCall(int call) {
        int a = marble();
        int b = marble();
        int p = power();
        int q = power();
        switch (call) {
            case 10:
            case 11:
                due("play " + a + " " + p + " " + b + " " + q, x.play(a, p, b, q), m.play(a, p, b, q));
                break;
            case 12:
                due("swap " + a + " " + b, x.swap(a, b), m.swap(a, b));
                break;
            case 13: {
                int boy = boy();
                due("give " + a + " " + boy, x.give(a, boy), m.give(a, boy));
                break;
            }
            case 14:
                due("chip " + a, x.chip(a), m.chip(a));
                break;
            case 15: {
                int n = random.nextInt(4) == 0 ? about(61) : 60;
                due("days " + n, x.days(n), m.days(n));
                break;
            }
            case 16: {
                int n = about(random.nextBoolean() ? 4 : 60);
                long seed = random.nextLong();
                due("years " + n + " " + seed, x.years(n, seed), m.years(n, seed));
                break;
            }
            case 17:
                if (random.nextInt(3) == 0) {
                    due("swallow " + a, x.swallow(a), m.swallow(a));
                }
                break;
            case 18:
                due("image", x.image(), m.image());
                break;
            case 19:
                due("back", x.back(), m.back());
                break;
            default:
                for (int i = random.nextInt(random.nextInt(8) == 0 ? 50 : 3); i >= 0; i--) {
                    due("undo", x.undo(), m.undo());
                }
        }
    }

    private void askCall(int call) {
        int a = marble();
        int b = marble();
        int p = power();
        int q = power();
        int boy = boy();
        int place = about(9);
        int kind = about(5);
        int what = about(4);
        switch (call) {
            case 22:
                due("rule " + what, x.rule(what), m.rule(what));
                break;
            case 23:
                compareBoy(boy, what);
                break;
            case 24:
                due("marble " + a + " " + what, x.marble(a, what), m.marble(a, what));
                break;
            case 25: {
                int farm = about(5);
                due("farm " + farm + " " + what, x.farm(farm, what), m.farm(farm, what));
                break;
            }
            case 26:
                due("lands " + boy + " " + a + " " + p, x.lands(boy, a, p), m.lands(boy, a, p));
                break;
            case 27:
                due("aim " + boy + " " + a, x.aim(boy, a), m.aim(boy, a));
                break;
            case 28:
                due("wins " + a + " " + p + " " + b + " " + q, x.wins(a, p, b, q), m.wins(a, p, b, q));
                break;
            case 29:
                due("weather " + place, x.weather(place), m.weather(place));
                break;
            case 30:
                due("spell " + place + " " + kind, x.spell(place, kind), m.spell(place, kind));
                break;
            case 31: {
                int both = random.nextInt(20) == 0 ? 2 : random.nextInt(2);
                due("arrange " + both, x.arrange(both), m.arrange(both));
                break;
            }
            case 32:
                if (random.nextInt(4) == 0) {
                    boolean is = random.nextInt(3) == 0;
                    due("seen " + place + " " + kind, x.seen(place, kind, is), m.seen(place, kind, is));
                }
                break;
            case 33: {
                int i = which(20);
                due("who " + i, x.who(i), m.who(i));
                break;
            }
            case 34:
                due("best", x.best(), m.best());
                break;
            default:
                askMore(call, a, b, p, q, boy);
        }
    }

    private void compareBoy(int boy, int what) {
        Integer want = m.boy(boy, what);
        try {
            int got = x.boy(boy, what);
            due("boy " + boy + " " + what + " answers", 1, want == null ? 0 : 1);
            due("boy " + boy + " " + what, got, want == null ? got : want);
        } catch (NoSuchElementException e) {
            due("boy " + boy + " " + what + " throws", 1, want == null ? 1 : 0);
        }
    }

    private void askMore(int call, int a, int b, int p, int q, int boy) {
        switch (call) {
            case 35: {
                int what = random.nextInt(20) == 0 ? about(2) : random.nextInt(2);
                due("game " + a + " " + p + " " + b + " " + q, x.game(a, p, b, q, what), m.game(a, p, b, q, what));
                break;
            }
            case 36: {
                int i = which(80);
                due("rests " + a + " " + b + " " + i, x.rests(a, b, i), m.rests(a, b, i));
                break;
            }
            case 37: {
                int kind = about(5);
                due("corner " + kind, x.corner(kind), m.corner(kind));
                break;
            }
            case 38:
                due("liking " + boy + " " + a, x.liking(boy, a), m.liking(boy, a));
                break;
            case 39: {
                int i = which(4);
                due("trades " + i, x.trades(i), m.trades(i));
                break;
            }
            case 40: {
                int chance = about(100);
                due("odds " + a + " " + p + " " + b + " " + q + " " + chance, x.odds(a, p, b, q, chance),
                    m.odds(a, p, b, q, chance));
                break;
            }
            case 41: {
                int c = about(999);
                due("shares " + boy + " " + c, x.shares(boy, c), m.shares(boy, c));
                break;
            }
            case 42:
                due("pays", x.pays(), m.pays());
                break;
            case 43: {
                int n = about(999);
                due("saves " + n, x.saves(n), m.saves(n));
                break;
            }
            case 44:
                due("hands " + boy, x.hands(boy), m.hands(boy));
                break;
            default: {
                int what = about(4);
                due("most " + what, x.most(what), m.most(what));
            }
        }
    }
}
