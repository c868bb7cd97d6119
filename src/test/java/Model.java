import java.util.ArrayDeque;
import java.util.ArrayList;
import java.util.Arrays;
import java.util.Collections;
import java.util.Deque;
import java.util.List;
import java.util.function.IntBinaryOperator;
import java.util.regex.Matcher;
import java.util.regex.Pattern;

/** The document again, written plainly and without care for room or speed, to hold the class against. */
final class Model {
    static final int NONE = -1;
    static final int HIDDEN = -1000000;
    private static final LawGrammar LAW_GRAMMAR = new LawGrammar();

    record Boy(int skill, int place) { }

    record Marble(int owner, int kind, int size) { }

    record Farm(int place, int kind, int pays) { }

    record Seen(int place, int kind, boolean is) { }

    record Entry(int sweets, int content) { }

    static final class State {
        int[] owner;
        boolean[] chipped;
        boolean[] swallowed;
        int sweets;
        int day;
        List<Entry> log = new ArrayList<>();

        State copy() {
            State s = new State();
            s.owner = owner.clone();
            s.chipped = chipped.clone();
            s.swallowed = swallowed.clone();
            s.sweets = sweets;
            s.day = day;
            s.log = new ArrayList<>(log);
            return s;
        }
    }

    private String tape = "";
    private final List<String> laws = new ArrayList<>();
    private int holds = NONE;
    private int spills = 0;
    private final int[] status = new int[5];
    private boolean yard = false;
    private int hole;
    private int behind;
    private final List<Boy> boys = new ArrayList<>();
    private final List<Marble> marbles = new ArrayList<>();
    private final List<Farm> farms = new ArrayList<>();
    private final List<Seen> seen = new ArrayList<>();
    private State s = new State();
    private State image = null;
    private final Deque<State> acts = new ArrayDeque<>();

    // ---- texts ----

    int feed(int... numbers) {
        StringBuilder more = new StringBuilder(tape);
        for (int number : numbers) {
            for (int b : new int[] {number >> 24 & 255, number >> 16 & 255, number >> 8 & 255, number & 255}) {
                if (b != 0) {
                    more.append((char) b);
                }
            }
        }
        if (more.length() > 240) {
            return NONE;
        }
        tape = more.toString();
        return tape.length();
    }

    boolean end(int n) {
        if (n < 0 || n > tape.length()) {
            return false;
        }
        tape = tape.substring(0, n);
        return true;
    }

    int fault(int sort) {
        return sort == 0 ? yardFault(null) : sort == 1 ? LAW_GRAMMAR.fault(tape) : -2;
    }

    private static final String[] SORTS = {"s l 3 30 12 r 1 9 3 c 0 99 10", "b k 1 9 5 p 0 9 0",
        "m o 0 4 0 w 0 5 0 s 1 9 3", "f p 0 9 0 w 0 5 0 n 0 9 2"};

    /** The FAULT of the TAPE as a YARD; the clauses, each with its sort ahead of its items, come to told. */
    private int yardFault(List<int[]> told) {
        int at = 0;
        int[] counts = new int[4];
        int mostOwner = 0;
        while (true) {
            at = past(at);
            int sort = at < tape.length() ? "sbmf".indexOf(tape.charAt(at)) : -1;
            if (sort < 0 || counts[sort] == new int[] {1, 5, 6, 6}[sort]) {
                return at;
            }
            counts[sort]++;
            String[] words = SORTS[sort].split(" ");
            int[] clause = new int[1 + words.length / 4];
            clause[0] = sort;
            for (int i = 1; i < clause.length; i++) {
                clause[i] = Integer.parseInt(words[4 * i]);
            }
            boolean[] there = new boolean[clause.length];
            at = past(at + 1);
            while (at < tape.length() && tape.charAt(at) != ';') {
                int item = 0;
                for (int i = 1; i < clause.length; i++) {
                    item = words[4 * i - 3].charAt(0) == tape.charAt(at) ? i : item;
                }
                if (item == 0 || there[item]) {
                    return at;
                }
                there[item] = true;
                at = past(at + 1);
                Matcher digits = Pattern.compile("[0-9]+").matcher(tape).region(at, tape.length());
                if (!digits.lookingAt()) {
                    return at;
                }
                if (digits.end() > at + 2) {
                    return at + 2;
                }
                int value = Integer.parseInt(digits.group());
                if (value < Integer.parseInt(words[4 * item - 2]) || value > Integer.parseInt(words[4 * item - 1])) {
                    return digits.end() - 1;
                }
                clause[item] = value;
                at = past(digits.end());
            }
            mostOwner = sort == 2 ? Math.max(mostOwner, clause[1]) : mostOwner;
            if (told != null) {
                told.add(clause);
            }
            if (at == tape.length()) {
                return counts[1] == 0 || counts[2] == 0 || mostOwner >= counts[1] ? at : NONE;
            }
            at++;
        }
    }

    private int past(int at) {
        while (at < tape.length() && tape.charAt(at) == ' ') {
            at++;
        }
        return at;
    }

    int text(int sort) {
        if (sort < 0 || sort > 1 || fault(sort) != NONE || sort == 1 && laws.size() == 4) {
            return NONE;
        }
        if (sort == 1) {
            laws.add(tape.replace(" ", ""));
            tape = "";
            return laws.size() - 1;
        }
        List<int[]> told = new ArrayList<>();
        yardFault(told);
        tape = "";
        layYard(told);
        return marbles.size();
    }

    private void layYard(List<int[]> told) {
        yard = true;
        boys.clear();
        marbles.clear();
        farms.clear();
        seen.clear();
        acts.clear();
        image = null;
        s = new State();
        hole = 12;
        behind = 3;
        s.sweets = 10;
        for (int[] c : told) {
            if (c[0] == 0) {
                hole = c[1];
                behind = c[2];
                s.sweets = c[3];
            } else if (c[0] == 1) {
                boys.add(new Boy(c[1], c[2]));
            } else if (c[0] == 2) {
                marbles.add(new Marble(c[1], c[2], c[3]));
            } else {
                farms.add(new Farm(c[1], c[2], c[3]));
            }
        }
        s.owner = marbles.stream().mapToInt(Marble::owner).toArray();
        s.chipped = new boolean[marbles.size()];
        s.swallowed = new boolean[marbles.size()];
    }

    // ---- laws ----

    private int worth(String law, int[] letters) {
        for (String clause : law.split(";")) {
            String body = clause.substring(2);
            int mark = body.indexOf('?');
            if (mark < 0 || truth(body.substring(0, mark), letters)) {
                return sum(body.substring(mark + 1), letters);
            }
        }
        return 0;
    }

    /** The last place of one of the signs outside of all brackets; -1 without. */
    private static int lastOutside(String text, String signs) {
        int depth = 0;
        for (int i = text.length() - 1; i >= 0; i--) {
            char c = text.charAt(i);
            depth += c == ')' || c == ']' ? 1 : c == '(' || c == '[' ? -1 : 0;
            if (depth == 0 && signs.indexOf(c) >= 0) {
                return i;
            }
        }
        return -1;
    }

    private boolean truth(String text, int[] letters) {
        int at = lastOutside(text, "|");
        if (at >= 0) {
            return truth(text.substring(0, at), letters) | truth(text.substring(at + 1), letters);
        }
        at = lastOutside(text, "&");
        if (at >= 0) {
            return truth(text.substring(0, at), letters) & truth(text.substring(at + 1), letters);
        }
        if (text.startsWith("!")) {
            return !truth(text.substring(1), letters);
        }
        if (text.startsWith("(")) {
            return truth(text.substring(1, text.length() - 1), letters);
        }
        at = lastOutside(text, "=<>");
        int left = sum(text.substring(0, at), letters);
        int right = sum(text.substring(at + 1), letters);
        char sign = text.charAt(at);
        return sign == '=' ? left == right : sign == '<' ? left < right : left > right;
    }

    private int sum(String text, int[] letters) {
        for (String signs : new String[] {"+-", "*/"}) {
            int at = lastOutside(text, signs);
            if (at >= 0) {
                long left = sum(text.substring(0, at), letters);
                long right = sum(text.substring(at + 1), letters);
                long value = switch (text.charAt(at)) {
                    case '+' -> left + right;
                    case '-' -> left - right;
                    case '*' -> left * right;
                    default -> right == 0 ? 0 : left / right;
                };
                return (int) Math.max(-1000000, Math.min(1000000, value));
            }
        }
        if (text.startsWith("[")) {
            return sum(text.substring(1, text.length() - 1), letters);
        }
        int letter = "pkschd".indexOf(text.charAt(0));
        return letter >= 0 ? letters[letter] : Integer.parseInt(text);
    }

    // ---- what is told ----

    private boolean isBoy(int b) {
        return b >= 0 && b < boys.size();
    }

    private boolean isMarble(int m) {
        return m >= 0 && m < marbles.size();
    }

    private boolean drained(int m) {
        return s.owner[m] < 0;
    }

    private int size(int m) {
        return marbles.get(m).size();
    }

    int rule(int what) {
        return !yard || what < 0 || what > 2 ? NONE : new int[] {hole, behind, s.sweets}[what];
    }

    /** null: NoSuchElementException. */
    Integer boy(int b, int what) {
        if (!isBoy(b) || what < 0 || what > 2) {
            return null;
        }
        return new int[] {boys.get(b).skill(), boys.get(b).place(), Integer.bitCount(hands(b))}[what];
    }

    int marble(int m, int what) {
        if (!isMarble(m) || what < 0 || what > 4) {
            return HIDDEN;
        }
        return new int[] {s.owner[m], marbles.get(m).kind(), size(m), s.chipped[m] ? 1 : 0, s.swallowed[m] ? 1 : 0}[what];
    }

    int farm(int f, int what) {
        if (f < 0 || f >= farms.size() || what < 0 || what > 3) {
            return NONE;
        }
        Farm farm = farms.get(f);
        return new int[] {farm.place(), farm.kind(), farm.pays(), content(f, s.owner) ? 1 : 0}[what];
    }

    boolean law(int law) {
        if (law < -1 || law >= laws.size()) {
            return false;
        }
        holds = law;
        return true;
    }

    // ---- weather ----

    private int sound(int m) {
        return Math.max(0, size(m) - (s.chipped[m] ? 2 : 0));
    }

    private int strength(int place, int kind, int[] owner) {
        int sum = 0;
        for (int m = 0; m < marbles.size(); m++) {
            boolean there = owner[m] >= 0 && boys.get(owner[m]).place() == place;
            sum += there && marbles.get(m).kind() == kind ? sound(m) : 0;
        }
        return sum;
    }

    private int weatherBy(int place, int[] owner) {
        int best = NONE;
        for (int kind = 5; kind >= 0; kind--) {
            int strength = strength(place, kind, owner);
            if (strength > 0 && (best == NONE || strength >= strength(place, best, owner))) {
                best = kind;
            }
        }
        return best;
    }

    private boolean content(int f, int[] owner) {
        return weatherBy(farms.get(f).place(), owner) == farms.get(f).kind();
    }

    int weather(int place) {
        return !yard || place < 0 || place > 9 ? HIDDEN : weatherBy(place, s.owner);
    }

    int spell(int place, int kind) {
        return !yard || place < 0 || place > 9 || kind < 0 || kind > 5 ? NONE : strength(place, kind, s.owner);
    }

    private int contentBits() {
        int bits = 0;
        for (int f = 0; f < farms.size(); f++) {
            bits += content(f, s.owner) ? 1 << f : 0;
        }
        return bits;
    }

    int pays() {
        if (!yard) {
            return NONE;
        }
        int sum = 0;
        for (int f = 0; f < farms.size(); f++) {
            sum += content(f, s.owner) ? farms.get(f).pays() : 0;
        }
        return sum;
    }

    int saves(int n) {
        if (!yard || n < 1 || n > 999) {
            return NONE;
        }
        int have = s.sweets;
        for (int d = 0; d <= 60; d++) {
            if (have >= n) {
                return d;
            }
            have = Math.min(999, have + pays());
        }
        return NONE;
    }

    // ---- flicks and games ----

    private int flick(int b, int m, int power) {
        int cell = 2 * power + boys.get(b).skill() / 2 - size(m) / 3;
        if (holds != NONE) {
            int[] letters = {power, boys.get(b).skill(), size(m), s.chipped[m] ? 1 : 0, Integer.bitCount(hands(b)), s.day};
            cell = worth(laws.get(holds), letters);
        }
        return Math.max(0, Math.min(60, cell));
    }

    private boolean gone(int cell) {
        return cell >= hole + behind;
    }

    private int winner(int first, int second) {
        if (gone(first) || gone(second)) {
            return 0;
        }
        int compared = Integer.compare(Math.abs(first - hole), Math.abs(second - hole));
        return compared < 0 ? 1 : compared > 0 ? 2 : 0;
    }

    /** The STATUS by which a GAME is refused; -1: it is not. */
    private int refused(int m, int power, int o, int against) {
        if (!isMarble(m) || !isMarble(o)) {
            return 0;
        }
        if (m == o || power < 1 || power > 9 || against < 1 || against > 9) {
            return 1;
        }
        boolean unfit = drained(m) || drained(o) || s.swallowed[m] || s.swallowed[o] || s.owner[m] == s.owner[o];
        return unfit ? 2 : -1;
    }

    private int refuse(int why) {
        status[why]++;
        return NONE;
    }

    private void act() {
        acts.addLast(s.copy());
        if (acts.size() > 40) {
            acts.removeFirst();
        }
    }

    private int carryOut(int m, int power, int o, int against) {
        int a = s.owner[m];
        int b = s.owner[o];
        int first = flick(a, m, power);
        int second = flick(b, o, against);
        int winner = winner(first, second);
        if (winner > 0) {
            s.owner[m] = winner == 1 ? a : b;
            s.owner[o] = s.owner[m];
        }
        s.owner[m] = gone(first) ? -1 : s.owner[m];
        s.owner[o] = gone(second) ? -1 : s.owner[o];
        return winner;
    }

    int play(int m, int power, int o, int against) {
        int why = refused(m, power, o, against);
        if (why >= 0) {
            return refuse(why);
        }
        act();
        return carryOut(m, power, o, against);
    }

    int swap(int m, int o) {
        int why = refused(m, 1, o, 1);
        if (why >= 0) {
            return refuse(why);
        }
        act();
        int a = s.owner[m];
        s.owner[m] = s.owner[o];
        s.owner[o] = a;
        return s.owner[m];
    }

    int give(int m, int b) {
        if (!isMarble(m) || !isBoy(b)) {
            return refuse(0);
        }
        if (drained(m) || s.swallowed[m] || s.owner[m] == b) {
            return refuse(2);
        }
        if (s.sweets < size(m)) {
            return refuse(3);
        }
        act();
        s.owner[m] = b;
        s.sweets -= size(m);
        return s.sweets;
    }

    private static int count(boolean[] row) {
        int n = 0;
        for (boolean b : row) {
            n += b ? 1 : 0;
        }
        return n;
    }

    private int mark(int m, boolean chips) {
        if (!isMarble(m)) {
            return refuse(0);
        }
        if (drained(m) || (chips ? s.chipped : s.swallowed)[m]) {
            return refuse(2);
        }
        act();
        boolean[] row = chips ? s.chipped : s.swallowed;
        row[m] = true;
        return count(row);
    }

    int chip(int m) {
        return mark(m, true);
    }

    int swallow(int m) {
        return mark(m, false);
    }

    private void passDay() {
        int content = contentBits();
        s.sweets = Math.min(999, s.sweets + pays());
        s.log.add(new Entry(s.sweets, content));
        s.day++;
    }

    int days(int n) {
        if (!yard) {
            return refuse(0);
        }
        if (n < 1 || n > 60) {
            return refuse(1);
        }
        if (s.day + n > 9999) {
            return refuse(4);
        }
        for (int i = 0; i < n; i++) {
            act();
            passDay();
        }
        return s.sweets;
    }

    boolean spills(int v) {
        if (v < 0 || v > 9 || v == spills) {
            return false;
        }
        spills = v;
        return true;
    }

    int years(int n, long seed) {
        if (!yard || n < 1 || n > 60 || s.day + n > 9999) {
            return NONE;
        }
        long[] x = {seed};
        IntBinaryOperator draw = (j, plus) -> {
            x[0] = x[0] * 6364136223846793005L + 1442695040888963407L;
            return (int) Long.remainderUnsigned(x[0] >>> 33, j) + plus;
        };
        for (int i = 0; i < n; i++) {
            act();
            int m = draw.applyAsInt(marbles.size(), 0);
            int o = draw.applyAsInt(marbles.size(), 0);
            int power = draw.applyAsInt(9, 1);
            int against = draw.applyAsInt(9, 1);
            if (refused(m, power, o, against) < 0) {
                carryOut(m, power, o, against);
            }
            if (draw.applyAsInt(10, 0) < spills) {
                int c = draw.applyAsInt(marbles.size(), 0);
                s.chipped[c] = s.chipped[c] || !drained(c);
            }
            passDay();
        }
        return s.day;
    }

    int status(int what) {
        return what < 0 || what > 4 ? NONE : status[what];
    }

    int undo() {
        if (acts.isEmpty()) {
            return NONE;
        }
        s = acts.removeLast();
        return acts.size();
    }

    int log(int i, int what) {
        if (i < 0 || i >= Math.min(60, s.log.size()) || what < 0 || what > 1) {
            return NONE;
        }
        Entry entry = s.log.get(s.log.size() - 1 - i);
        return what == 0 ? entry.sweets() : entry.content();
    }

    int lands(int b, int m, int power) {
        return !isBoy(b) || !isMarble(m) || power < 1 || power > 9 ? NONE : flick(b, m, power);
    }

    int aim(int b, int m) {
        int best = NONE;
        for (int power = 9; power >= 1 && isBoy(b) && isMarble(m); power--) {
            int off = Math.abs(flick(b, m, power) - hole);
            if (!gone(flick(b, m, power)) && (best == NONE || off <= Math.abs(flick(b, m, best) - hole))) {
                best = power;
            }
        }
        return best;
    }

    int wins(int m, int power, int o, int against) {
        if (refused(m, power, o, against) >= 0) {
            return HIDDEN;
        }
        return winner(flick(s.owner[m], m, power), flick(s.owner[o], o, against));
    }

    int game(int m, int power, int o, int against, int what) {
        if (what < 0 || what > 1 || refused(m, power, o, against) >= 0) {
            return HIDDEN;
        }
        if (what == 1) {
            return game(o, against, m, power, 0);
        }
        int winner = wins(m, power, o, against);
        boolean lost = winner == 2 || gone(flick(s.owner[m], m, power));
        return (winner == 1 ? size(o) : 0) - (lost ? size(m) : 0);
    }

    private static int nth(List<Integer> found, int i) {
        return i == NONE ? found.size() : i >= 0 && i < found.size() ? found.get(i) : NONE;
    }

    int rests(int m, int o, int i) {
        if (refused(m, 1, o, 1) >= 0) {
            return NONE;
        }
        List<Integer> found = new ArrayList<>();
        for (int x = 1; x <= 9; x++) {
            for (int y = 1; y <= 9; y++) {
                boolean rests = true;
                for (int z = 1; z <= 9; z++) {
                    rests &= game(m, z, o, y, 0) <= game(m, x, o, y, 0) && game(m, x, o, z, 1) <= game(m, x, o, y, 1);
                }
                if (rests) {
                    found.add(10 * x + y);
                }
            }
        }
        return nth(found, i);
    }

    int odds(int m, int power, int o, int against, int chance) {
        if (chance < 0 || chance > 100 || refused(m, power, o, against) >= 0) {
            return NONE;
        }
        int first = flick(s.owner[m], m, power);
        int second = flick(s.owner[o], o, against);
        long sum = 0;
        long[] parts = split(1000000000L, chance);
        for (int i = 0; i < 3; i++) {
            long[] within = split(parts[i], chance);
            for (int j = 0; j < 3; j++) {
                boolean won = winner(Math.max(0, first + i - 1), Math.max(0, second + j - 1)) == 1;
                sum += won ? within[j] : 0;
            }
        }
        return (int) sum;
    }

    private static long[] split(long parts, int chance) {
        long wrong = parts * chance / 100;
        return new long[] {wrong / 2, parts - wrong, wrong - wrong / 2};
    }

    // ---- arrange, who, look ----

    int arrange(int what) {
        if (!yard || what < 0 || what > 1) {
            return NONE;
        }
        int[] best = {NONE, NONE};
        int all = (int) Math.pow(10, marbles.size());
        rows:
        for (int row = 0; row < all; row++) {
            int[] owner = new int[marbles.size()];
            int changed = 0;
            for (int m = marbles.size() - 1, rest = row; m >= 0; m--, rest /= 10) {
                owner[m] = rest % 10;
                boolean fixed = drained(m) || s.swallowed[m];
                int kept = drained(m) ? 9 : s.owner[m];
                if (fixed ? owner[m] != kept : owner[m] >= boys.size()) {
                    continue rows;
                }
                changed += owner[m] == kept ? 0 : 1;
                owner[m] = drained(m) ? -1 : owner[m];
            }
            if (best[0] != NONE && changed >= best[0]) {
                continue;
            }
            boolean content = true;
            for (int f = 0; f < farms.size(); f++) {
                content &= content(f, owner);
            }
            if (content) {
                best = new int[] {changed, row};
            }
        }
        return best[what];
    }

    int seen(int place, int kind, boolean is) {
        if (spell(place, kind) == NONE || seen.size() == 10) {
            return NONE;
        }
        seen.add(new Seen(place, kind, is));
        return seen.size();
    }

    private int[] ownersBy(int candidate) {
        int[] owner = s.owner.clone();
        if (candidate != 99) {
            owner[candidate / 10] = candidate % 10;
        }
        return owner;
    }

    private List<Integer> whoAll() {
        List<Integer> found = new ArrayList<>();
        for (int candidate = 0; candidate < 100; candidate++) {
            int m = candidate / 10;
            boolean may = candidate == 99
                || isMarble(m) && isBoy(candidate % 10) && !drained(m) && s.owner[m] != candidate % 10;
            if (may) {
                int[] owner = ownersBy(candidate);
                if (seen.stream().allMatch(one -> weatherBy(one.place(), owner) == one.kind() == one.is())) {
                    found.add(candidate);
                }
            }
        }
        return found;
    }

    int who(int i) {
        return yard ? nth(whoAll(), i) : NONE;
    }

    int best() {
        if (!yard || whoAll().isEmpty()) {
            return NONE;
        }
        int best = NONE;
        int least = 1000;
        for (int place = 0; place < 10; place++) {
            List<Integer> told = new ArrayList<>();
            for (int candidate : whoAll()) {
                told.add(weatherBy(place, ownersBy(candidate)));
            }
            int most = told.stream().mapToInt(one -> Collections.frequency(told, one)).max().getAsInt();
            if (most < least) {
                least = most;
                best = place;
            }
        }
        return best;
    }

    // ---- what boys have ----

    int corner(int kind) {
        List<Integer> owners = new ArrayList<>();
        for (int m = 0; m < marbles.size(); m++) {
            if (marbles.get(m).kind() == kind && !drained(m)) {
                owners.add(s.owner[m]);
            }
        }
        return owners.stream().distinct().count() == 1 ? owners.get(0) : NONE;
    }

    int liking(int b, int m) {
        if (!isBoy(b) || !isMarble(m)) {
            return NONE;
        }
        Farm wants = null;
        for (Farm f : farms) {
            wants = f.place() == boys.get(b).place() && f.kind() == marbles.get(m).kind() ? f : wants;
        }
        return sound(m) + (wants == null ? 0 : 5);
    }

    int trades(int i) {
        if (!yard) {
            return NONE;
        }
        List<Integer> found = new ArrayList<>();
        for (int pair = 0; pair < 60; pair++) {
            int m = pair / 10;
            int o = pair % 10;
            if (o > m && refused(m, 1, o, 1) < 0 && liking(s.owner[m], o) > liking(s.owner[m], m)
                && liking(s.owner[o], m) > liking(s.owner[o], o)) {
                found.add(pair);
            }
        }
        return nth(found, i);
    }

    int shares(int b, int c) {
        if (!isBoy(b) || c < 0 || c > 999) {
            return NONE;
        }
        int[] sizes = new int[boys.size()];
        for (int m = 0; m < marbles.size(); m++) {
            if (!drained(m)) {
                sizes[s.owner[m]] += size(m);
            }
        }
        int all = Arrays.stream(sizes).sum();
        return all == 0 ? 0 : c * sizes[b] / all;
    }

    int hands(int b) {
        if (!isBoy(b)) {
            return NONE;
        }
        int bits = 0;
        for (int m = 0; m < marbles.size(); m++) {
            bits += s.owner[m] == b ? 1 << m : 0;
        }
        return bits;
    }

    int most(int what) {
        if (!yard || what < 0 || what > 3) {
            return NONE;
        }
        int best = NONE;
        if (what == 0) {
            for (int b = boys.size() - 1; b >= 0; b--) {
                best = best == NONE || boy(b, 2) >= boy(best, 2) ? b : best;
            }
        } else if (what == 1) {
            for (int m = marbles.size() - 1; m >= 0; m--) {
                best = !drained(m) && (best == NONE || size(m) >= size(best)) ? m : best;
            }
        } else if (what == 2) {
            best = 0;
            for (int place = 0; place < 10; place++) {
                best += weather(place) == NONE ? 1 << place : 0;
            }
        } else {
            for (int b = boys.size() - 1; b >= 0; b--) {
                best = off(b) < 1000 && (best == NONE || off(b) <= off(best)) ? b : best;
            }
        }
        return best;
    }

    /** How far from the HOLE the boy's greatest marble comes at best; 1000: it can't be. */
    private int off(int b) {
        int greatest = NONE;
        for (int m = marbles.size() - 1; m >= 0; m--) {
            boolean his = s.owner[m] == b && !s.swallowed[m];
            greatest = his && (greatest == NONE || size(m) >= size(greatest)) ? m : greatest;
        }
        int power = aim(b, greatest);
        return power == NONE ? 1000 : Math.abs(flick(b, greatest, power) - hole);
    }

    int image() {
        if (!yard) {
            return NONE;
        }
        image = s.copy();
        return s.day;
    }

    int back() {
        if (image == null) {
            return NONE;
        }
        s = image.copy();
        acts.clear();
        return s.day;
    }

    int count(int what) {
        int gone = 0;
        for (int m = 0; m < marbles.size(); m++) {
            gone += drained(m) ? 1 << m : 0;
        }
        int[] all = {marbles.size(), boys.size(), farms.size(), laws.size(), tape.length(), holds, s.day, contentBits(),
            gone, spills, seen.size(), Math.min(60, s.log.size()), acts.size()};
        return what < 0 || what >= all.length ? HIDDEN : all[what];
    }
}
