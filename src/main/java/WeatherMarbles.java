import java.util.Arrays;
import java.util.NoSuchElementException;

/** Marbles of weather: boys, marbles, farms and a lane, told as texts; ../shared/DOC.md says what each call promises. */
public final class WeatherMarbles {
    public static final int NONE = -1;
    public static final int HIDDEN = -1000000;

    private static final int NO_SORT = -2;

    private static final int MOST_BYTES = 240;
    private static final int END = -1;
    private static final int BLANK = 32;

    private static final int RULES = 0;
    private static final int BOYS = 1;
    private static final int MARBLES = 2;
    private static final int FARMS = 3;
    private static final int MOST_BOYS = 5;
    private static final int MOST_MARBLES = 6;
    private static final int PLACES = 10;
    private static final int KINDS = 6;

    // Every clause of a YARD is a row of three items; these tables have a column for each item of s, b, m, f in turn.
    private static final int ITEMS = 3;
    private static final int ROWS = 18;
    private static final int[] SORT_LETTERS = {'s', 'b', 'm', 'f'};
    private static final int[] FIRST_ROW = {0, 1, 6, 12};
    private static final int[] MOST_CLAUSES = {1, 5, 6, 6};
    // A letter of 0 never matches, as the TAPE holds no byte of 0.
    private static final int[] ITEM_LETTERS = {'l', 'r', 'c', 'k', 'p', 0, 'o', 'w', 's', 'p', 'w', 'n'};
    private static final int[] ITEM_LEAST = {3, 1, 0, 1, 0, 0, 0, 0, 1, 0, 0, 0};
    private static final int[] ITEM_MOST = {30, 9, 99, 9, 9, 0, 4, 5, 9, 9, 5, 9};
    private static final int[] ITEM_USUAL = {12, 3, 10, 5, 0, 0, 0, 0, 3, 0, 0, 2};

    private static final int MOST_LAWS = 4;
    private static final int MOST_NESTED = 6;
    private static final int[] LAW_LETTERS = {'p', 'k', 's', 'c', 'h', 'd'};
    // Tokens of a compiled LAW: a number below LETTER, then letters, signs, the end of a SUM, and jumps.
    private static final int LETTER = 10000;
    private static final int SIGN = 20000;
    private static final int ANSWER = 30000;
    private static final int JUMP = 40000;
    private static final int WORTH_BOUND = 1000000;

    private static final int MOST_POWER = 9;
    private static final int LAST_CELL = 60;
    private static final int MOST_SWEETS = 999;
    private static final int LAST_DAY = 9999;
    private static final int MOST_DAYS = 60;
    private static final int LOG_SHOWN = 60;
    // The latest 40 ACTS can be undone, and then 60 entries must still be shown: a ring of 128 keeps them.
    private static final int LOG_RING = 128;
    private static final int MOST_ACTS = 40;
    private static final int MOST_SEEN = 10;
    private static final int AS_NOW = 99;

    private static final int NO_SUCH = 0;
    private static final int OUT_OF_BOUNDS = 1;
    private static final int NOT_FIT = 2;
    private static final int TOO_FEW = 3;
    private static final int TOO_LATE = 4;
    private static final int STATUSES = 5;

    private final Tape tape;
    private final YardReader yardReader;
    private final LawReader lawReader;
    private final Laws laws;
    private final Yard yard;
    private final Now now;
    private final Past past;
    private final Sky sky;
    private final Clues clues;
    private final Lane lane;
    private final int[] refusals;
    private int spillsNow;
    private long drawn;

    public WeatherMarbles() {
        tape = new Tape();
        yardReader = new YardReader(tape);
        lawReader = new LawReader(tape);
        laws = new Laws();
        yard = new Yard();
        now = new Now();
        past = new Past(now);
        sky = new Sky(yard, now);
        clues = new Clues(yard, now, sky);
        lane = new Lane(yard, now, laws);
        refusals = new int[STATUSES];
    }

    // ---- texts ----

    public int feed(int a, int b, int c, int d, int e) {
        int more = Tape.bytesIn(a) + Tape.bytesIn(b) + Tape.bytesIn(c) + Tape.bytesIn(d) + Tape.bytesIn(e);
        if (tape.size() + more > MOST_BYTES) {
            return NONE;
        }
        tape.append(a);
        tape.append(b);
        tape.append(c);
        tape.append(d);
        tape.append(e);
        return tape.size();
    }

    public boolean end(int n) {
        if (n < 0 || n > tape.size()) {
            return false;
        }
        tape.cutTo(n);
        return true;
    }

    public int fault(int sort) {
        if (sort == 0) {
            return yardReader.reads() ? NONE : tape.position();
        }
        if (sort == 1) {
            return lawReader.reads() ? NONE : tape.position();
        }
        return NO_SORT;
    }

    public int text(int sort) {
        if (sort == 0 && yardReader.reads()) {
            yard.takeOver(yardReader.draft());
            now.begin(yard);
            past.forgetAll();
            clues.forgetAll();
            tape.cutTo(0);
            return yard.marbles();
        }
        if (sort == 1 && laws.size() < MOST_LAWS && lawReader.reads()) {
            laws.add(lawReader);
            tape.cutTo(0);
            return laws.size() - 1;
        }
        return NONE;
    }

    // ---- what is told and how it stands ----

    public int rule(int what) {
        if (!yard.stands()) {
            return NONE;
        }
        switch (what) {
            case 0:
                return yard.hole();
            case 1:
                return yard.behind();
            case 2:
                return now.sweets;
            default:
                return NONE;
        }
    }

    public int boy(int boy, int what) throws NoSuchElementException {
        if (!yard.hasBoy(boy) || what < 0 || what > 2) {
            throw new NoSuchElementException("no such boy or what");
        }
        if (what == 0) {
            return yard.skill(boy);
        }
        return what == 1 ? yard.boyPlace(boy) : Integer.bitCount(now.handOf(boy));
    }

    public int marble(int marble, int what) {
        if (!yard.hasMarble(marble)) {
            return HIDDEN;
        }
        switch (what) {
            case 0:
                return now.ownerOf(marble);
            case 1:
                return yard.kind(marble);
            case 2:
                return yard.size(marble);
            case 3:
                return now.isChipped(marble) ? 1 : 0;
            case 4:
                return now.isSwallowed(marble) ? 1 : 0;
            default:
                return HIDDEN;
        }
    }

    public int farm(int farm, int what) {
        if (!yard.hasFarm(farm)) {
            return NONE;
        }
        switch (what) {
            case 0:
                return yard.farmPlace(farm);
            case 1:
                return yard.wanted(farm);
            case 2:
                return yard.payment(farm);
            case 3:
                return contentNow() >> farm & 1;
            default:
                return NONE;
        }
    }

    public boolean law(int law) {
        return laws.choose(law);
    }

    // ---- acts ----

    public int play(int marble, int power, int other, int against) {
        int refusal = lane.refusalOf(marble, power, other, against);
        if (refusal != NONE) {
            return refuse(refusal);
        }
        past.remember();
        return lane.carryOut(marble, power, other, against);
    }

    public int swap(int marble, int other) {
        int refusal = lane.refusalOf(marble, 1, other, 1);
        if (refusal != NONE) {
            return refuse(refusal);
        }
        past.remember();
        int first = now.ownerOf(marble);
        now.hand(marble, now.ownerOf(other));
        now.hand(other, first);
        return now.ownerOf(marble);
    }

    public int give(int marble, int boy) {
        if (!yard.hasMarble(marble) || !yard.hasBoy(boy)) {
            return refuse(NO_SUCH);
        }
        if (!now.isFree(marble) || now.ownerOf(marble) == boy) {
            return refuse(NOT_FIT);
        }
        if (now.sweets < yard.size(marble)) {
            return refuse(TOO_FEW);
        }
        past.remember();
        now.sweets -= yard.size(marble);
        now.hand(marble, boy);
        return now.sweets;
    }

    public int chip(int marble) {
        if (!yard.hasMarble(marble)) {
            return refuse(NO_SUCH);
        }
        if (now.isChipped(marble) || now.isDrained(marble)) {
            return refuse(NOT_FIT);
        }
        past.remember();
        now.chipped |= 1 << marble;
        return Integer.bitCount(now.chipped);
    }

    public int swallow(int marble) {
        if (!yard.hasMarble(marble)) {
            return refuse(NO_SUCH);
        }
        if (now.isSwallowed(marble) || now.isDrained(marble)) {
            return refuse(NOT_FIT);
        }
        past.remember();
        now.swallowed |= 1 << marble;
        return Integer.bitCount(now.swallowed);
    }

    public int days(int n) {
        if (!yard.stands()) {
            return refuse(NO_SUCH);
        }
        if (n < 1 || n > MOST_DAYS) {
            return refuse(OUT_OF_BOUNDS);
        }
        if (now.day + n > LAST_DAY) {
            return refuse(TOO_LATE);
        }
        for (int i = 0; i < n; i++) {
            past.remember();
            passDay();
        }
        return now.sweets;
    }

    public boolean spills(int v) {
        if (v < 0 || v > 9 || v == spillsNow) {
            return false;
        }
        spillsNow = v;
        return true;
    }

    public int years(int n, long seed) {
        if (!yard.stands() || n < 1 || n > MOST_DAYS || now.day + n > LAST_DAY) {
            return NONE;
        }
        drawn = seed;
        for (int i = 0; i < n; i++) {
            past.remember();
            playByDraws();
            spillByDraws();
            passDay();
        }
        return now.day;
    }

    public int status(int what) {
        return what >= 0 && what < STATUSES ? refusals[what] : NONE;
    }

    public int undo() {
        return past.goBackOne();
    }

    public int log(int i, int what) {
        if (i < 0 || i >= past.logLength()) {
            return NONE;
        }
        if (what == 0) {
            return past.sweetsThen(i);
        }
        return what == 1 ? past.contentThen(i) : NONE;
    }

    // ---- the lane ----

    public int lands(int boy, int marble, int power) {
        if (!yard.hasBoy(boy) || !yard.hasMarble(marble) || !Lane.isPower(power)) {
            return NONE;
        }
        return lane.flick(boy, marble, power);
    }

    public int aim(int boy, int marble) {
        if (!yard.hasBoy(boy) || !yard.hasMarble(marble)) {
            return NONE;
        }
        return lane.nearestPower(boy, marble);
    }

    public int wins(int marble, int power, int other, int against) {
        if (lane.refusalOf(marble, power, other, against) != NONE) {
            return HIDDEN;
        }
        return lane.winnerOf(marble, power, other, against);
    }

    public int game(int marble, int power, int other, int against, int what) {
        if (what < 0 || what > 1 || lane.refusalOf(marble, power, other, against) != NONE) {
            return HIDDEN;
        }
        int first = lane.flick(now.ownerOf(marble), marble, power);
        int second = lane.flick(now.ownerOf(other), other, against);
        if (what == 0) {
            return lane.gain(first, second, yard.size(marble), yard.size(other));
        }
        return lane.gain(second, first, yard.size(other), yard.size(marble));
    }

    public int rests(int marble, int other, int i) {
        if (lane.refusalOf(marble, 1, other, 1) != NONE) {
            return NONE;
        }
        return lane.restingPowers(marble, other, i);
    }

    public int odds(int marble, int power, int other, int against, int chance) {
        if (chance < 0 || chance > 100 || lane.refusalOf(marble, power, other, against) != NONE) {
            return NONE;
        }
        int first = lane.flick(now.ownerOf(marble), marble, power);
        int second = lane.flick(now.ownerOf(other), other, against);
        return lane.winningParts(first, second, chance);
    }

    // ---- weather ----

    public int weather(int place) {
        if (!yard.stands() || place < 0 || place >= PLACES) {
            return HIDDEN;
        }
        sky.measure();
        return sky.strongestKind(place);
    }

    public int spell(int place, int kind) {
        if (!isPlaceAndKind(place, kind)) {
            return NONE;
        }
        sky.measure();
        return sky.strengthOf(place, kind);
    }

    public int arrange(int what) {
        if (!yard.stands() || what < 0 || what > 1) {
            return NONE;
        }
        if (!sky.findArrangement()) {
            return NONE;
        }
        return what == 0 ? sky.fewestChanges() : sky.leastRow();
    }

    public int seen(int place, int kind, boolean is) {
        if (!isPlaceAndKind(place, kind) || clues.size() >= MOST_SEEN) {
            return NONE;
        }
        clues.add(place, kind, is);
        return clues.size();
    }

    public int who(int i) {
        if (!yard.stands()) {
            return NONE;
        }
        int fitting = clues.search();
        return i == NONE ? fitting : clues.fittingAt(i);
    }

    public int best() {
        return yard.stands() ? clues.placeToLook() : NONE;
    }

    // ---- what boys have and like ----

    public int corner(int kind) {
        if (kind < 0 || kind >= KINDS) {
            return NONE;
        }
        int owner = NONE;
        for (int m = 0; m < yard.marbles(); m++) {
            if (yard.kind(m) != kind || now.isDrained(m)) {
                continue;
            }
            if (owner != NONE && owner != now.ownerOf(m)) {
                return NONE;
            }
            owner = now.ownerOf(m);
        }
        return owner;
    }

    public int liking(int boy, int marble) {
        if (!yard.hasBoy(boy) || !yard.hasMarble(marble)) {
            return NONE;
        }
        return likingFor(boy, marble);
    }

    public int trades(int i) {
        if (!yard.stands()) {
            return NONE;
        }
        int found = 0;
        for (int m = 0; m < yard.marbles(); m++) {
            for (int other = m + 1; other < yard.marbles(); other++) {
                if (bothWouldSwap(m, other)) {
                    if (found == i) {
                        return 10 * m + other;
                    }
                    found++;
                }
            }
        }
        return i == NONE ? found : NONE;
    }

    public int shares(int boy, int c) {
        if (!yard.hasBoy(boy) || c < 0 || c > MOST_SWEETS) {
            return NONE;
        }
        int his = 0;
        int all = 0;
        for (int m = 0; m < yard.marbles(); m++) {
            if (!now.isDrained(m)) {
                all += yard.size(m);
                his += now.ownerOf(m) == boy ? yard.size(m) : 0;
            }
        }
        return all == 0 ? 0 : c * his / all;
    }

    public int pays() {
        return yard.stands() ? yard.paymentOf(contentNow()) : NONE;
    }

    public int saves(int n) {
        if (!yard.stands() || n < 1 || n > MOST_SWEETS) {
            return NONE;
        }
        int daily = yard.paymentOf(contentNow());
        for (int d = 0; d <= MOST_DAYS; d++) {
            if (now.sweets + d * daily >= n) {
                return d;
            }
        }
        return NONE;
    }

    public int hands(int boy) {
        return yard.hasBoy(boy) ? now.handOf(boy) : NONE;
    }

    public int most(int what) {
        if (!yard.stands()) {
            return NONE;
        }
        switch (what) {
            case 0:
                return richestBoy();
            case 1:
                return strongestMarble();
            case 2:
                sky.measure();
                return sky.placesWithout();
            case 3:
                return champion();
            default:
                return NONE;
        }
    }

    // ---- images and counts ----

    public int image() {
        if (!yard.stands()) {
            return NONE;
        }
        past.keepImage();
        return now.day;
    }

    public int back() {
        return past.restoreImage() ? now.day : NONE;
    }

    public int count(int what) {
        switch (what) {
            case 0:
                return yard.marbles();
            case 1:
                return yard.boys();
            case 2:
                return yard.farms();
            case 3:
                return laws.size();
            case 4:
                return tape.size();
            case 5:
                return laws.chosen();
            case 6:
                return now.day;
            case 7:
                return contentNow();
            case 8:
                return now.drainedBits();
            case 9:
                return spillsNow;
            case 10:
                return clues.size();
            case 11:
                return past.logLength();
            case 12:
                return past.undoable();
            default:
                return HIDDEN;
        }
    }

    // ---- helpers of the face ----

    private int refuse(int why) {
        if (why >= 0 && why < STATUSES) {
            refusals[why]++;
        }
        return NONE;
    }

    private boolean isPlaceAndKind(int place, int kind) {
        return yard.stands() && place >= 0 && place < PLACES && kind >= 0 && kind < KINDS;
    }

    private int contentNow() {
        sky.measure();
        return sky.contentBits();
    }

    private void passDay() {
        int content = contentNow();
        now.sweets = Math.min(MOST_SWEETS, now.sweets + yard.paymentOf(content));
        past.write(content);
        now.day++;
    }

    private int draw(int j) {
        drawn = drawn * 6364136223846793005L + 1442695040888963407L;
        return j > 0 ? (int) ((drawn >>> 33) % j) : 0;
    }

    private void playByDraws() {
        int marble = draw(yard.marbles());
        int other = draw(yard.marbles());
        int power = draw(MOST_POWER) + 1;
        int against = draw(MOST_POWER) + 1;
        if (lane.refusalOf(marble, power, other, against) == NONE) {
            lane.carryOut(marble, power, other, against);
        }
    }

    private void spillByDraws() {
        if (draw(10) >= spillsNow) {
            return;
        }
        int marble = draw(yard.marbles());
        if (!now.isDrained(marble)) {
            now.chipped |= 1 << marble;
        }
    }

    private int likingFor(int boy, int marble) {
        boolean wanted = false;
        for (int f = 0; f < yard.farms(); f++) {
            wanted |= yard.farmPlace(f) == yard.boyPlace(boy) && yard.wanted(f) == yard.kind(marble);
        }
        return now.soundSize(yard, marble) + (wanted ? 5 : 0);
    }

    private boolean bothWouldSwap(int marble, int other) {
        if (lane.refusalOf(marble, 1, other, 1) != NONE) {
            return false;
        }
        int first = now.ownerOf(marble);
        int second = now.ownerOf(other);
        return likingFor(first, other) > likingFor(first, marble)
                && likingFor(second, marble) > likingFor(second, other);
    }

    private int richestBoy() {
        int richest = 0;
        for (int b = 1; b < yard.boys(); b++) {
            if (Integer.bitCount(now.handOf(b)) > Integer.bitCount(now.handOf(richest))) {
                richest = b;
            }
        }
        return richest;
    }

    private int strongestMarble() {
        int strongest = NONE;
        for (int m = 0; m < yard.marbles(); m++) {
            if (!now.isDrained(m) && (strongest == NONE || yard.size(m) > yard.size(strongest))) {
                strongest = m;
            }
        }
        return strongest;
    }

    private int champion() {
        int champion = NONE;
        int nearest = 0;
        for (int b = 0; b < yard.boys(); b++) {
            int marble = greatestOf(b);
            int power = marble == NONE ? NONE : lane.nearestPower(b, marble);
            if (power == NONE) {
                continue;
            }
            int distance = lane.distance(lane.flick(b, marble, power));
            if (champion == NONE || distance < nearest) {
                champion = b;
                nearest = distance;
            }
        }
        return champion;
    }

    private int greatestOf(int boy) {
        int greatest = NONE;
        for (int m = 0; m < yard.marbles(); m++) {
            if (now.ownerOf(m) == boy && !now.isSwallowed(m)
                    && (greatest == NONE || yard.size(m) > yard.size(greatest))) {
                greatest = m;
            }
        }
        return greatest;
    }

    /** The bytes that have been fed, and a cursor that stands at the FAULT when a reader gives up. */
    private static final class Tape {
        private final int[] bytes = new int[MOST_BYTES];
        private int length;
        private int at;

        static int bytesIn(int number) {
            int n = 0;
            for (int shift = 24; shift >= 0; shift -= 8) {
                n += (number >>> shift & 255) != 0 ? 1 : 0;
            }
            return n;
        }

        void append(int number) {
            for (int shift = 24; shift >= 0; shift -= 8) {
                int b = number >>> shift & 255;
                if (b != 0 && length < MOST_BYTES) {
                    bytes[length] = b;
                    length++;
                }
            }
        }

        int size() {
            return length;
        }

        void cutTo(int n) {
            length = n;
        }

        void rewind() {
            at = 0;
        }

        int position() {
            return at;
        }

        /** The sign at the cursor, behind blanks; END if there is none. */
        int sign() {
            while (at < length && bytes[at] == BLANK) {
                at++;
            }
            return at < length ? bytes[at] : END;
        }

        void step() {
            at++;
        }

        void stepBack() {
            at--;
        }

        boolean takes(int wanted) {
            if (sign() != wanted) {
                return false;
            }
            at++;
            return true;
        }

        /** The number at the cursor; NONE leaves the cursor at what is wrong: no digit, or one too many. */
        int number(int mostDigits) {
            sign();
            if (!isAtDigit()) {
                return NONE;
            }
            int value = 0;
            for (int n = 0; n < mostDigits && isAtDigit(); n++) {
                value = value * 10 + bytes[at] - '0';
                at++;
            }
            return isAtDigit() ? NONE : value;
        }

        private boolean isAtDigit() {
            return at < length && bytes[at] >= '0' && bytes[at] <= '9';
        }
    }

    /** What a YARD tells, as rows of three items: one of rules, five of boys, six of marbles, six of farms. */
    private static final class Yard {
        private final int[] cells = new int[ROWS * ITEMS];
        private final int[] clauses = new int[SORT_LETTERS.length];

        void clear() {
            Arrays.fill(clauses, 0);
            fillUsual(RULES, 0);
        }

        void takeOver(Yard draft) {
            System.arraycopy(draft.cells, 0, cells, 0, cells.length);
            System.arraycopy(draft.clauses, 0, clauses, 0, clauses.length);
        }

        /** Opens one clause more of the sort with what holds untold; false: there are as many as may be. */
        boolean opens(int sort) {
            if (clauses[sort] >= MOST_CLAUSES[sort]) {
                return false;
            }
            fillUsual(sort, clauses[sort]);
            clauses[sort]++;
            return true;
        }

        private void fillUsual(int sort, int index) {
            for (int item = 0; item < ITEMS; item++) {
                cells[(FIRST_ROW[sort] + index) * ITEMS + item] = ITEM_USUAL[sort * ITEMS + item];
            }
        }

        void tellLatest(int sort, int item, int value) {
            if (clauses[sort] > 0) {
                cells[(FIRST_ROW[sort] + clauses[sort] - 1) * ITEMS + item] = value;
            }
        }

        boolean isWhole() {
            if (boys() == 0 || marbles() == 0) {
                return false;
            }
            for (int m = 0; m < marbles(); m++) {
                if (firstOwner(m) >= boys()) {
                    return false;
                }
            }
            return true;
        }

        private int cell(int sort, int index, int item) {
            return index >= 0 && index < MOST_CLAUSES[sort] ? cells[(FIRST_ROW[sort] + index) * ITEMS + item] : 0;
        }

        boolean stands() {
            return marbles() > 0;
        }

        int boys() {
            return clauses[BOYS];
        }

        int marbles() {
            return clauses[MARBLES];
        }

        int farms() {
            return clauses[FARMS];
        }

        boolean hasBoy(int boy) {
            return boy >= 0 && boy < boys();
        }

        boolean hasMarble(int marble) {
            return marble >= 0 && marble < marbles();
        }

        boolean hasFarm(int farm) {
            return farm >= 0 && farm < farms();
        }

        int hole() {
            return cell(RULES, 0, 0);
        }

        int behind() {
            return cell(RULES, 0, 1);
        }

        int firstSweets() {
            return cell(RULES, 0, 2);
        }

        int skill(int boy) {
            return cell(BOYS, boy, 0);
        }

        int boyPlace(int boy) {
            return cell(BOYS, boy, 1);
        }

        int firstOwner(int marble) {
            return cell(MARBLES, marble, 0);
        }

        int kind(int marble) {
            return cell(MARBLES, marble, 1);
        }

        int size(int marble) {
            return cell(MARBLES, marble, 2);
        }

        int farmPlace(int farm) {
            return cell(FARMS, farm, 0);
        }

        int wanted(int farm) {
            return cell(FARMS, farm, 1);
        }

        int payment(int farm) {
            return cell(FARMS, farm, 2);
        }

        int paymentOf(int content) {
            int sum = 0;
            for (int f = 0; f < farms(); f++) {
                sum += (content >> f & 1) * payment(f);
            }
            return sum;
        }
    }

    /** Reads the TAPE as a YARD into a draft. */
    private static final class YardReader {
        private final Tape tape;
        private final Yard read = new Yard();

        YardReader(Tape tape) {
            this.tape = tape;
        }

        Yard draft() {
            return read;
        }

        /** False: there is a FAULT, where the cursor of the TAPE stands. */
        boolean reads() {
            read.clear();
            tape.rewind();
            boolean more = true;
            for (int n = 0; n < MOST_BYTES && more; n++) {
                if (!readClause()) {
                    return false;
                }
                more = tape.takes(';');
            }
            return tape.sign() == END && read.isWhole();
        }

        /** Stops ahead of the first sign that is no item: the caller judges it. */
        private boolean readClause() {
            int sort = sortOf(tape.sign());
            if (sort == NONE || !read.opens(sort)) {
                return false;
            }
            tape.step();
            int there = 0;
            for (int n = 0; n < ITEMS; n++) {
                int item = itemOf(sort, tape.sign());
                if (item == NONE || (there >> item & 1) != 0) {
                    return true;
                }
                there |= 1 << item;
                tape.step();
                if (!readValue(sort, item)) {
                    return false;
                }
            }
            return true;
        }

        private boolean readValue(int sort, int item) {
            int value = tape.number(2);
            if (value == NONE) {
                return false;
            }
            if (value < ITEM_LEAST[sort * ITEMS + item] || value > ITEM_MOST[sort * ITEMS + item]) {
                tape.stepBack();
                return false;
            }
            read.tellLatest(sort, item, value);
            return true;
        }

        private static int sortOf(int sign) {
            for (int sort = 0; sort < SORT_LETTERS.length; sort++) {
                if (SORT_LETTERS[sort] == sign) {
                    return sort;
                }
            }
            return NONE;
        }

        private static int itemOf(int sort, int sign) {
            for (int item = 0; item < ITEMS; item++) {
                if (ITEM_LETTERS[sort * ITEMS + item] == sign) {
                    return item;
                }
            }
            return NONE;
        }
    }

    /** Reads the TAPE as a LAW and compiles it: operands ahead of their signs, a jump behind each CONDITION. */
    private static final class LawReader {
        private final Tape tape;
        // Each token stands for a byte of its own at least, so there is room for all.
        private final int[] code = new int[MOST_BYTES];
        private int length;

        LawReader(Tape tape) {
            this.tape = tape;
        }

        /** Copies what was compiled: how many tokens. */
        int copyCode(int[] into, int start) {
            for (int i = 0; i < length && start + i < into.length; i++) {
                into[start + i] = code[i];
            }
            return length;
        }

        /** False: there is a FAULT, where the cursor of the TAPE stands. */
        boolean reads() {
            length = 0;
            tape.rewind();
            boolean more = true;
            for (int n = 0; n < MOST_BYTES && more; n++) {
                if (!readClause()) {
                    return false;
                }
                more = tape.takes(';');
            }
            return tape.sign() == END;
        }

        private boolean readClause() {
            if (!tape.takes('y') || !tape.takes(':')) {
                return false;
            }
            int first = tape.sign();
            boolean sumAhead = first != '!' && first != '(';
            if (sumAhead) {
                if (!readSum(0)) {
                    return false;
                }
                if (!isComparison(tape.sign())) {
                    emit(ANSWER);
                    return true;
                }
            }
            if (!readCondition(0, sumAhead) || !tape.takes('?')) {
                return false;
            }
            int jump = length;
            emit(JUMP);
            if (!readSum(0)) {
                return false;
            }
            emit(ANSWER);
            aimJump(jump);
            return true;
        }

        private void aimJump(int jump) {
            if (jump < MOST_BYTES) {
                code[jump] = JUMP + length;
            }
        }

        private void emit(int token) {
            if (length < MOST_BYTES) {
                code[length] = token;
                length++;
            }
        }

        /** With sumAhead the left SUM of the first UNIT has been read already. */
        private boolean readCondition(int depth, boolean sumAhead) {
            if (!readTruth(depth, sumAhead)) {
                return false;
            }
            for (int n = 0; n < MOST_BYTES && tape.takes('|'); n++) {
                if (!readTruth(depth, false)) {
                    return false;
                }
                emit(SIGN + '|');
            }
            return true;
        }

        private boolean readTruth(int depth, boolean sumAhead) {
            boolean fine = sumAhead ? readRightOfComparison(depth) : readUnit(depth);
            if (!fine) {
                return false;
            }
            for (int n = 0; n < MOST_BYTES && tape.takes('&'); n++) {
                if (!readUnit(depth)) {
                    return false;
                }
                emit(SIGN + '&');
            }
            return true;
        }

        private boolean readUnit(int depth) {
            int sign = tape.sign();
            if (sign != '!' && sign != '(') {
                return readSum(depth) && readRightOfComparison(depth);
            }
            if (depth >= MOST_NESTED) {
                return false;
            }
            tape.step();
            if (sign == '(') {
                return readCondition(depth + 1, false) && tape.takes(')');
            }
            if (!readUnit(depth + 1)) {
                return false;
            }
            emit(SIGN + '!');
            return true;
        }

        private boolean readRightOfComparison(int depth) {
            int sign = tape.sign();
            if (!isComparison(sign)) {
                return false;
            }
            tape.step();
            if (!readSum(depth)) {
                return false;
            }
            emit(SIGN + sign);
            return true;
        }

        private boolean readSum(int depth) {
            if (!readTerm(depth)) {
                return false;
            }
            for (int n = 0; n < MOST_BYTES; n++) {
                int sign = tape.sign();
                if (sign != '+' && sign != '-') {
                    return true;
                }
                tape.step();
                if (!readTerm(depth)) {
                    return false;
                }
                emit(SIGN + sign);
            }
            return true;
        }

        private boolean readTerm(int depth) {
            if (!readAtom(depth)) {
                return false;
            }
            for (int n = 0; n < MOST_BYTES; n++) {
                int sign = tape.sign();
                if (sign != '*' && sign != '/') {
                    return true;
                }
                tape.step();
                if (!readAtom(depth)) {
                    return false;
                }
                emit(SIGN + sign);
            }
            return true;
        }

        private boolean readAtom(int depth) {
            int sign = tape.sign();
            if (sign == '[') {
                if (depth >= MOST_NESTED) {
                    return false;
                }
                tape.step();
                return readSum(depth + 1) && tape.takes(']');
            }
            for (int i = 0; i < LAW_LETTERS.length; i++) {
                if (LAW_LETTERS[i] == sign) {
                    tape.step();
                    emit(LETTER + i);
                    return true;
                }
            }
            int value = tape.number(4);
            if (value == NONE) {
                return false;
            }
            emit(value);
            return true;
        }

        private static boolean isComparison(int sign) {
            return sign == '=' || sign == '<' || sign == '>';
        }
    }

    /** The compiled LAWS, and which of them holds. */
    private static final class Laws {
        private final int[] codes = new int[MOST_LAWS * MOST_BYTES];
        private final int[] lengths = new int[MOST_LAWS];
        private int size;
        private int chosen = NONE;
        private final int[] stack = new int[MOST_BYTES];

        int size() {
            return size;
        }

        void add(LawReader reader) {
            if (size < MOST_LAWS) {
                lengths[size] = reader.copyCode(codes, size * MOST_BYTES);
                size++;
            }
        }

        boolean choose(int number) {
            if (number < NONE || number >= size) {
                return false;
            }
            chosen = number;
            return true;
        }

        int chosen() {
            return chosen;
        }

        boolean anyHolds() {
            return chosen >= 0 && chosen < size;
        }

        /** The WORTH by the LAW that holds; 0 if none does. */
        int worth(int[] letters) {
            int length = anyHolds() ? lengths[chosen] : 0;
            int start = chosen * MOST_BYTES;
            int top = 0;
            int at = 0;
            for (int turn = 0; turn < length && at < length && top < MOST_BYTES; turn++) {
                int token = codes[start + at];
                at++;
                if (token < SIGN) {
                    stack[top] = token < LETTER ? token : letterOf(letters, token - LETTER);
                    top++;
                } else if (top == 0) {
                    return 0;
                } else if (token == ANSWER) {
                    return stack[top - 1];
                } else if (token >= JUMP) {
                    top--;
                    at = stack[top] == 0 ? token - JUMP : at;
                } else if (token == SIGN + '!') {
                    stack[top - 1] = 1 - stack[top - 1];
                } else if (top >= 2) {
                    top--;
                    stack[top - 1] = joined(token - SIGN, stack[top - 1], stack[top]);
                }
            }
            return 0;
        }

        private static int letterOf(int[] letters, int i) {
            return i >= 0 && i < letters.length ? letters[i] : 0;
        }

        private static int joined(int sign, int left, int right) {
            switch (sign) {
                case '+':
                    return held((long) left + right);
                case '-':
                    return held((long) left - right);
                case '*':
                    return held((long) left * right);
                case '/':
                    return right == 0 ? 0 : left / right;
                case '=':
                    return left == right ? 1 : 0;
                case '<':
                    return left < right ? 1 : 0;
                case '>':
                    return left > right ? 1 : 0;
                case '&':
                    return left & right;
                default:
                    return left | right;
            }
        }

        private static int held(long value) {
            return (int) Math.max(-WORTH_BOUND, Math.min(WORTH_BOUND, value));
        }
    }

    /** What acts change: owners, chipped and swallowed ones, sweets, the day. */
    private static final class Now {
        private final int[] owners = new int[MOST_MARBLES];
        private int marbles;
        int chipped;
        int swallowed;
        int sweets;
        int day;

        void begin(Yard yard) {
            marbles = Math.min(yard.marbles(), MOST_MARBLES);
            for (int m = 0; m < marbles; m++) {
                owners[m] = yard.firstOwner(m);
            }
            chipped = 0;
            swallowed = 0;
            sweets = yard.firstSweets();
            day = 0;
        }

        int ownerOf(int marble) {
            return marble >= 0 && marble < marbles ? owners[marble] : NONE;
        }

        void hand(int marble, int boy) {
            if (marble >= 0 && marble < marbles) {
                owners[marble] = boy;
            }
        }

        boolean isDrained(int marble) {
            return ownerOf(marble) == NONE;
        }

        boolean isChipped(int marble) {
            return (chipped >> marble & 1) != 0;
        }

        boolean isSwallowed(int marble) {
            return (swallowed >> marble & 1) != 0;
        }

        /** Whether it can be played, swapped or given. */
        boolean isFree(int marble) {
            return !isDrained(marble) && !isSwallowed(marble);
        }

        int handOf(int boy) {
            int bits = 0;
            for (int m = 0; m < marbles; m++) {
                bits |= owners[m] == boy ? 1 << m : 0;
            }
            return bits;
        }

        int drainedBits() {
            return handOf(NONE);
        }

        int soundSize(Yard yard, int marble) {
            int size = yard.size(marble);
            return isChipped(marble) ? Math.max(0, size - 2) : size;
        }

        /** All of it in one number: three bits an owner, six bits each of chipped and swallowed ones, sweets, the day. */
        long packed() {
            long bits = (long) day << 40 | (long) sweets << 30 | (long) swallowed << 24 | (long) chipped << 18;
            for (int m = 0; m < marbles; m++) {
                bits |= (long) (owners[m] + 1) << 3 * m;
            }
            return bits;
        }

        void unpack(long bits) {
            for (int m = 0; m < marbles; m++) {
                owners[m] = (int) (bits >>> 3 * m & 7) - 1;
            }
            chipped = (int) (bits >>> 18 & 63);
            swallowed = (int) (bits >>> 24 & 63);
            sweets = (int) (bits >>> 30 & 1023);
            day = (int) (bits >>> 40);
        }
    }

    /** What can be undone, the LOG and the IMAGE. A DAY writes one entry, so the day tells how long the LOG is. */
    private static final class Past {
        private final Now now;
        private final long[] acts = new long[MOST_ACTS];
        private int next;
        private int kept;
        private final int[] entries = new int[LOG_RING];
        private boolean hasImage;
        private long image;
        private final int[] imageEntries = new int[LOG_SHOWN];

        Past(Now now) {
            this.now = now;
        }

        void forgetAll() {
            kept = 0;
            hasImage = false;
        }

        void remember() {
            acts[next] = now.packed();
            next = (next + 1) % MOST_ACTS;
            kept = Math.min(kept + 1, MOST_ACTS);
        }

        int undoable() {
            return kept;
        }

        int goBackOne() {
            if (kept == 0) {
                return NONE;
            }
            kept--;
            next = (next + MOST_ACTS - 1) % MOST_ACTS;
            now.unpack(acts[next]);
            return kept;
        }

        int logLength() {
            return Math.min(now.day, LOG_SHOWN);
        }

        private int ringIndex(int i) {
            return now.day - 1 - i & LOG_RING - 1;
        }

        /** Writes the day that ends: to be called ahead of the next one's number. */
        void write(int content) {
            entries[ringIndex(-1)] = now.sweets << 6 | content;
        }

        int sweetsThen(int i) {
            return entries[ringIndex(i)] >> 6;
        }

        int contentThen(int i) {
            return entries[ringIndex(i)] & 63;
        }

        void keepImage() {
            hasImage = true;
            image = now.packed();
            for (int i = 0; i < logLength(); i++) {
                imageEntries[i] = entries[ringIndex(i)];
            }
        }

        boolean restoreImage() {
            if (!hasImage) {
                return false;
            }
            now.unpack(image);
            for (int i = 0; i < logLength(); i++) {
                entries[ringIndex(i)] = imageEntries[i];
            }
            kept = 0;
            return true;
        }
    }

    /** FLICKS and GAMES. */
    private static final class Lane {
        private static final int PARTS = 1000000000;

        private final Yard yard;
        private final Now now;
        private final Laws laws;
        private final int[] letters = new int[LAW_LETTERS.length];
        private final int[] firstCells = new int[MOST_POWER + 1];
        private final int[] secondCells = new int[MOST_POWER + 1];
        private final int[] firstBest = new int[MOST_POWER + 1];
        private final int[] secondBest = new int[MOST_POWER + 1];

        Lane(Yard yard, Now now, Laws laws) {
            this.yard = yard;
            this.now = now;
            this.laws = laws;
        }

        static boolean isPower(int power) {
            return power >= 1 && power <= MOST_POWER;
        }

        /** Why there can be no GAME of these, as a number of STATUS; NONE: there can. */
        int refusalOf(int marble, int power, int other, int against) {
            if (!yard.hasMarble(marble) || !yard.hasMarble(other)) {
                return NO_SUCH;
            }
            if (marble == other || !isPower(power) || !isPower(against)) {
                return OUT_OF_BOUNDS;
            }
            boolean fit = now.isFree(marble) && now.isFree(other) && now.ownerOf(marble) != now.ownerOf(other);
            return fit ? NONE : NOT_FIT;
        }

        int flick(int boy, int marble, int power) {
            int cell = 2 * power + yard.skill(boy) / 2 - yard.size(marble) / 3;
            if (laws.anyHolds()) {
                letters[0] = power;
                letters[1] = yard.skill(boy);
                letters[2] = yard.size(marble);
                letters[3] = now.isChipped(marble) ? 1 : 0;
                letters[4] = Integer.bitCount(now.handOf(boy));
                letters[5] = now.day;
                cell = laws.worth(letters);
            }
            return Math.max(0, Math.min(LAST_CELL, cell));
        }

        boolean isDrain(int cell) {
            return cell >= yard.hole() + yard.behind();
        }

        int distance(int cell) {
            return Math.abs(cell - yard.hole());
        }

        /** 1 or 2: whose cell is nearer; 0: as near, or one is in the DRAIN. */
        private int nearerOf(int first, int second) {
            if (isDrain(first) || isDrain(second) || distance(first) == distance(second)) {
                return 0;
            }
            return distance(first) < distance(second) ? 1 : 2;
        }

        int winnerOf(int marble, int power, int other, int against) {
            return nearerOf(flick(now.ownerOf(marble), marble, power), flick(now.ownerOf(other), other, against));
        }

        /** Plays a GAME that is not refused. */
        int carryOut(int marble, int power, int other, int against) {
            int firstBoy = now.ownerOf(marble);
            int secondBoy = now.ownerOf(other);
            int first = flick(firstBoy, marble, power);
            int second = flick(secondBoy, other, against);
            int winner = nearerOf(first, second);
            if (isDrain(first)) {
                now.hand(marble, NONE);
            }
            if (isDrain(second)) {
                now.hand(other, NONE);
            }
            if (winner == 1) {
                now.hand(other, firstBoy);
            } else if (winner == 2) {
                now.hand(marble, secondBoy);
            }
            return winner;
        }

        int nearestPower(int boy, int marble) {
            int best = NONE;
            int nearest = 0;
            for (int power = 1; power <= MOST_POWER; power++) {
                int cell = flick(boy, marble, power);
                if (!isDrain(cell) && (best == NONE || distance(cell) < nearest)) {
                    best = power;
                    nearest = distance(cell);
                }
            }
            return best;
        }

        /** What the one has whose marble comes to the cell own. */
        int gain(int own, int others, int ownSize, int othersSize) {
            int winner = nearerOf(own, others);
            if (winner == 1) {
                return othersSize;
            }
            return winner == 2 || isDrain(own) ? -ownSize : 0;
        }

        /** RESTS: how many (i NONE), the i-th, NONE without. */
        int restingPowers(int marble, int other, int i) {
            int size = yard.size(marble);
            int otherSize = yard.size(other);
            findBestAnswers(marble, other);
            int found = 0;
            for (int x = 1; x <= MOST_POWER; x++) {
                for (int y = 1; y <= MOST_POWER; y++) {
                    if (gain(firstCells[x], secondCells[y], size, otherSize) == firstBest[y]
                            && gain(secondCells[y], firstCells[x], otherSize, size) == secondBest[x]) {
                        if (found == i) {
                            return 10 * x + y;
                        }
                        found++;
                    }
                }
            }
            return i == NONE ? found : NONE;
        }

        /** The most that either can have against each power of the other one. */
        private void findBestAnswers(int marble, int other) {
            int size = yard.size(marble);
            int otherSize = yard.size(other);
            for (int power = 1; power <= MOST_POWER; power++) {
                firstCells[power] = flick(now.ownerOf(marble), marble, power);
                secondCells[power] = flick(now.ownerOf(other), other, power);
                firstBest[power] = -size;
                secondBest[power] = -otherSize;
            }
            for (int x = 1; x <= MOST_POWER; x++) {
                for (int y = 1; y <= MOST_POWER; y++) {
                    int first = gain(firstCells[x], secondCells[y], size, otherSize);
                    int second = gain(secondCells[y], firstCells[x], otherSize, size);
                    firstBest[y] = Math.max(firstBest[y], first);
                    secondBest[x] = Math.max(secondBest[x], second);
                }
            }
        }

        int winningParts(int first, int second, int chance) {
            int sum = 0;
            for (int slip = -1; slip <= 1; slip++) {
                int parts = partsOf(PARTS, slip, chance);
                for (int otherSlip = -1; otherSlip <= 1; otherSlip++) {
                    if (nearerOf(Math.max(0, first + slip), Math.max(0, second + otherSlip)) == 1) {
                        sum += partsOf(parts, otherSlip, chance);
                    }
                }
            }
            return sum;
        }

        /** Of so many parts those that come short (-1), right (0) or far (1). */
        private static int partsOf(int parts, int slip, int chance) {
            int wrong = (int) ((long) parts * chance / 100);
            int tooShort = wrong / 2;
            if (slip == 0) {
                return parts - wrong;
            }
            return slip < 0 ? tooShort : wrong - tooShort;
        }
    }

    /** STRENGTHS by place and kind, as measured and as moved for a trial, and ARRANGE. */
    private static final class Sky {
        private final Yard yard;
        private final Now now;
        private final int[] strengths = new int[PLACES * KINDS];
        private int fewest;
        private int row;

        Sky(Yard yard, Now now) {
            this.yard = yard;
            this.now = now;
        }

        void measure() {
            Arrays.fill(strengths, 0);
            for (int m = 0; m < yard.marbles(); m++) {
                if (!now.isDrained(m)) {
                    strengths[indexOf(now.ownerOf(m), m)] += now.soundSize(yard, m);
                }
            }
        }

        private int indexOf(int boy, int marble) {
            return yard.boyPlace(boy) * KINDS + yard.kind(marble);
        }

        /** Moves a marble's strength for a trial; the caller moves it back. */
        void move(int marble, int from, int to) {
            lift(marble, from);
            put(marble, to);
        }

        private void lift(int marble, int from) {
            strengths[indexOf(from, marble)] -= now.soundSize(yard, marble);
        }

        private void put(int marble, int to) {
            strengths[indexOf(to, marble)] += now.soundSize(yard, marble);
        }

        int strengthOf(int place, int kind) {
            return strengths[place * KINDS + kind];
        }

        int strongestKind(int place) {
            int strongest = NONE;
            int most = 0;
            for (int kind = 0; kind < KINDS; kind++) {
                if (strengthOf(place, kind) > most) {
                    most = strengthOf(place, kind);
                    strongest = kind;
                }
            }
            return strongest;
        }

        int contentBits() {
            int bits = 0;
            for (int f = 0; f < yard.farms(); f++) {
                bits |= strongestKind(yard.farmPlace(f)) == yard.wanted(f) ? 1 << f : 0;
            }
            return bits;
        }

        int placesWithout() {
            int bits = 0;
            for (int place = 0; place < PLACES; place++) {
                bits |= strongestKind(place) == NONE ? 1 << place : 0;
            }
            return bits;
        }

        private boolean areAllContent() {
            for (int f = 0; f < yard.farms(); f++) {
                if (strongestKind(yard.farmPlace(f)) != yard.wanted(f)) {
                    return false;
                }
            }
            return true;
        }

        /** False: there is no ARRANGE. */
        boolean findArrangement() {
            fewest = MOST_MARBLES + 1;
            row = NONE;
            if (isHopeless()) {
                return false;
            }
            measure();
            tryOwners(0, 0, 0);
            return row != NONE;
        }

        int fewestChanges() {
            return fewest;
        }

        int leastRow() {
            return row;
        }

        /** Spares the long search where it can be seen at once that some FARM never is CONTENT. */
        private boolean isHopeless() {
            for (int f = 0; f < yard.farms(); f++) {
                if (!isInhabited(yard.farmPlace(f)) || isTorn(f) || isTooRare(yard.wanted(f))) {
                    return true;
                }
            }
            return false;
        }

        private boolean isInhabited(int place) {
            for (int b = 0; b < yard.boys(); b++) {
                if (yard.boyPlace(b) == place) {
                    return true;
                }
            }
            return false;
        }

        /** Whether a farm of the same place wants another kind. */
        private boolean isTorn(int farm) {
            for (int f = 0; f < yard.farms(); f++) {
                if (yard.farmPlace(f) == yard.farmPlace(farm) && yard.wanted(f) != yard.wanted(farm)) {
                    return true;
                }
            }
            return false;
        }

        /** Whether more places want the kind than there are marbles of it with any strength. */
        private boolean isTooRare(int kind) {
            int places = 0;
            for (int f = 0; f < yard.farms(); f++) {
                places |= yard.wanted(f) == kind ? 1 << yard.farmPlace(f) : 0;
            }
            int strong = 0;
            for (int m = 0; m < yard.marbles(); m++) {
                strong += yard.kind(m) == kind && !now.isDrained(m) && now.soundSize(yard, m) > 0 ? 1 : 0;
            }
            return strong < Integer.bitCount(places);
        }

        /** Tries all owners from this marble on. Rows come rising, so only fewer changes beat what was found. */
        private void tryOwners(int marble, int changes, int digits) {
            if (changes >= fewest) {
                return;
            }
            if (marble >= yard.marbles() || marble >= MOST_MARBLES) {
                if (areAllContent()) {
                    fewest = changes;
                    row = digits;
                }
                return;
            }
            int owner = now.ownerOf(marble);
            if (!now.isFree(marble)) {
                tryOwners(marble + 1, changes, digits * 10 + (owner == NONE ? 9 : owner));
                return;
            }
            lift(marble, owner);
            for (int b = 0; b < yard.boys(); b++) {
                if (b == owner || isFirstElsewhere(b, yard.boyPlace(owner))) {
                    put(marble, b);
                    tryOwners(marble + 1, b == owner ? changes : changes + 1, digits * 10 + b);
                    lift(marble, b);
                }
            }
            put(marble, owner);
        }

        /** A change within the owner's place is wasted, and of the boys of one place the lowest makes the least row. */
        private boolean isFirstElsewhere(int boy, int ownersPlace) {
            for (int b = 0; b < boy; b++) {
                if (yard.boyPlace(b) == yard.boyPlace(boy)) {
                    return false;
                }
            }
            return yard.boyPlace(boy) != ownersPlace;
        }
    }

    /** What was SEEN, and who by it may have given a marble away. */
    private static final class Clues {
        private static final int STATES = KINDS + 1;

        private final Yard yard;
        private final Now now;
        private final Sky sky;
        private int size;
        private final int[] places = new int[MOST_SEEN];
        private final int[] kinds = new int[MOST_SEEN];
        private final boolean[] holds = new boolean[MOST_SEEN];
        private int found;
        private final int[] fitting = new int[MOST_MARBLES * MOST_BOYS + 1];
        private final int[] tally = new int[PLACES * STATES];

        Clues(Yard yard, Now now, Sky sky) {
            this.yard = yard;
            this.now = now;
            this.sky = sky;
        }

        void forgetAll() {
            size = 0;
        }

        int size() {
            return size;
        }

        void add(int place, int kind, boolean is) {
            if (size < MOST_SEEN) {
                places[size] = place;
                kinds[size] = kind;
                holds[size] = is;
                size++;
            }
        }

        private boolean areAllSo() {
            for (int i = 0; i < size; i++) {
                if ((sky.strongestKind(places[i]) == kinds[i]) != holds[i]) {
                    return false;
                }
            }
            return true;
        }

        /** Finds all of WHO: how many. */
        int search() {
            found = 0;
            sky.measure();
            for (int m = 0; m < yard.marbles(); m++) {
                int owner = now.ownerOf(m);
                for (int b = 0; b < yard.boys() && owner != NONE; b++) {
                    if (b != owner) {
                        sky.move(m, owner, b);
                        keepIfSo(10 * m + b);
                        sky.move(m, b, owner);
                    }
                }
            }
            keepIfSo(AS_NOW);
            return found;
        }

        private void keepIfSo(int candidate) {
            if (found < fitting.length && areAllSo()) {
                fitting[found] = candidate;
                found++;
            }
        }

        int fittingAt(int i) {
            return i >= 0 && i < found ? fitting[i] : NONE;
        }

        /** LOOK; NONE: nothing fits. */
        int placeToLook() {
            if (search() == 0) {
                return NONE;
            }
            Arrays.fill(tally, 0);
            for (int i = 0; i < found; i++) {
                countTold(fitting[i]);
            }
            int best = 0;
            for (int place = 1; place < PLACES; place++) {
                if (mostTold(place) < mostTold(best)) {
                    best = place;
                }
            }
            return best;
        }

        private void countTold(int candidate) {
            int marble = candidate / 10;
            int owner = now.ownerOf(marble);
            boolean moved = candidate != AS_NOW;
            if (moved) {
                sky.move(marble, owner, candidate % 10);
            }
            for (int place = 0; place < PLACES; place++) {
                tally[place * STATES + sky.strongestKind(place) + 1]++;
            }
            if (moved) {
                sky.move(marble, candidate % 10, owner);
            }
        }

        private int mostTold(int place) {
            int most = 0;
            for (int state = 0; state < STATES; state++) {
                most = Math.max(most, tally[place * STATES + state]);
            }
            return most;
        }
    }
}
