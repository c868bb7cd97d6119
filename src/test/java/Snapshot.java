/**
 * All that questions can tell of an object, as one text, to compare two objects, or one ahead of a call and behind it.
 * That is more than the 512 calls for which the document promises answers; this class has no such end.
 */
final class Snapshot {
    private final WeatherMarbles x;
    private final StringBuilder text = new StringBuilder();

    private Snapshot(WeatherMarbles x) {
        this.x = x;
    }

    /** Everything but STATUS. */
    static String of(WeatherMarbles x) {
        Snapshot s = new Snapshot(x);
        s.texts();
        s.things();
        s.lane();
        s.sky();
        s.haves();
        return s.text.toString();
    }

    static String status(WeatherMarbles x) {
        Snapshot s = new Snapshot(x);
        for (int what = 0; what < 5; what++) {
            s.add(x.status(what));
        }
        return s.text.toString();
    }

    private void add(int answer) {
        text.append(answer).append(' ');
    }

    private void texts() {
        add(x.fault(0));
        add(x.fault(1));
        for (int what = 0; what < 13; what++) {
            add(x.count(what));
        }
        for (int i = 0; i < x.count(11); i++) {
            add(x.log(i, 0));
            add(x.log(i, 1));
        }
        text.append('\n');
    }

    private void things() {
        for (int what = 0; what < 3; what++) {
            add(x.rule(what));
            for (int b = 0; b < x.count(1); b++) {
                add(x.boy(b, what));
            }
        }
        for (int what = 0; what < 5; what++) {
            for (int i = 0; i < 6; i++) {
                add(x.marble(i, what));
                add(x.farm(i, what));
            }
        }
        text.append('\n');
    }

    private void lane() {
        for (int m = 0; m < x.count(0); m++) {
            for (int b = 0; b < x.count(1); b++) {
                add(x.aim(b, m));
                for (int power = 1; power <= 9; power++) {
                    add(x.lands(b, m, power));
                }
            }
            for (int o = 0; o < x.count(0); o++) {
                add(x.wins(m, 4, o, 5));
                add(x.game(m, 4, o, 5, 0));
                add(x.rests(m, o, -1));
                add(x.odds(m, 4, o, 5, 30));
            }
        }
        text.append('\n');
    }

    private void sky() {
        for (int place = 0; place < 10; place++) {
            add(x.weather(place));
            for (int kind = 0; kind < 6; kind++) {
                add(x.spell(place, kind));
            }
        }
        add(x.arrange(0));
        add(x.arrange(1));
        for (int i = -1; i < 26; i++) {
            add(x.who(i));
        }
        add(x.best());
        text.append('\n');
    }

    private void haves() {
        for (int b = 0; b < x.count(1); b++) {
            add(x.hands(b));
            add(x.shares(b, 999));
            for (int m = 0; m < x.count(0); m++) {
                add(x.liking(b, m));
            }
        }
        for (int i = -1; i < 15; i++) {
            add(x.trades(i));
            add(x.corner(i));
        }
        for (int what = 0; what < 4; what++) {
            add(x.most(what));
        }
        add(x.pays());
        add(x.saves(999));
        text.append('\n');
    }
}
