import java.util.Arrays;
import java.util.NoSuchElementException;

/** The police are mousetraps: corners in a ring with traps, and people who walk into them. */
public final class TrapCorner {
    public static final int NONE = -1;
    public static final int HIDDEN = -1000000;

    private static final int MOST_BYTES = 240;
    private static final int MOST_CORNERS = 5;
    private static final int MOST_PEOPLE = 6;
    private static final int MOST_TEXTS = 4;
    private static final int MOST_STEPS = 16;
    private static final int MOST_SEEN = 10;
    private static final int MOST_ACTS = 40;
    private static final int MOST_ROWS = 60;

    private static final int HIGHEST_CRUMB = 3;
    private static final int HIGHEST_SPRING = 9;
    private static final int HIGHEST_WARY = 9;
    private static final int HIGHEST_TIMES = 99;
    private static final int HIGHEST_COINS = 999;
    private static final int LAST_DAY = 999;
    private static final int HIGHEST_PULL = 40;
    private static final int HIGHEST_DOGS = 9;

    private static final int CITY = 0;
    private static final int LAW = 1;
    private static final int PLAN = 2;

    private static final int DAY = 0;
    private static final int LAY = 1;
    private static final int RENEW = 2;
    private static final int TURN = 3;

    private static final int GAMES = 8;
    private static final int ALL_PARTS = 1000000000;
    private static final int FAR = 1000000;

    private final Tape tape;
    private final CityReader cityReader;
    private final LawReader lawReader;
    private final PlanReader planReader;
    private final Town town;
    private final State now;
    private final State apart;
    private final History history;
    private final Pull pull;
    private final Round round;
    private final Sightings sightings;
    private final int[][] laws;
    private final int[][] plans;
    private final int[] stakes;
    private int lawCount;
    private int planCount;
    private int heldLaw;
    private int dogs;
    private long draws;

    public TrapCorner() {
        tape = new Tape();
        cityReader = new CityReader(tape);
        lawReader = new LawReader(tape);
        planReader = new PlanReader(tape);
        town = new Town();
        now = new State();
        apart = new State();
        history = new History();
        pull = new Pull();
        round = new Round(town, pull);
        sightings = new Sightings(town, pull);
        laws = new int[MOST_TEXTS][0];
        plans = new int[MOST_TEXTS][0];
        stakes = new int[2 * GAMES];
        heldLaw = NONE;
        dogs = 2;
    }

    // ---- texts

    public int feed(int a, int b, int c, int d, int e) {
        int more = tape.bytesIn(a) + tape.bytesIn(b) + tape.bytesIn(c) + tape.bytesIn(d) + tape.bytesIn(e);
        if (tape.length + more > MOST_BYTES) {
            return NONE;
        }
        tape.put(a);
        tape.put(b);
        tape.put(c);
        tape.put(d);
        tape.put(e);
        return tape.length;
    }

    public boolean end(int n) {
        if (n < 0 || n > tape.length) {
            return false;
        }
        tape.length = n;
        return true;
    }

    public int fault(int sort) {
        Reader reader = readerOf(sort);
        if (reader == null) {
            return -2;
        }
        return reader.reads() ? NONE : reader.wrong;
    }

    private Reader readerOf(int sort) {
        switch (sort) {
            case CITY:
                return cityReader;
            case LAW:
                return lawReader;
            case PLAN:
                return planReader;
            default:
                return null;
        }
    }

    public int text(int sort) {
        // fault() leaves what it has read with the reader, so a sound text is not read again
        if (fault(sort) != NONE) {
            return NONE;
        }
        switch (sort) {
            case CITY:
                return foundCity();
            case LAW:
                return keepLaw();
            case PLAN:
                return keepPlan();
            default:
                return NONE;
        }
    }

    private int foundCity() {
        town.copyFrom(cityReader.draft);
        now.begin(town);
        history.clear();
        sightings.clear();
        tape.length = 0;
        return town.people;
    }

    private int keepLaw() {
        if (lawCount >= MOST_TEXTS) {
            return NONE;
        }
        laws[lawCount] = lawReader.program();
        tape.length = 0;
        lawCount++;
        return lawCount - 1;
    }

    private int keepPlan() {
        if (planCount >= MOST_TEXTS) {
            return NONE;
        }
        plans[planCount] = planReader.steps();
        tape.length = 0;
        planCount++;
        return planCount - 1;
    }

    // ---- what is

    public int rule(int what) {
        if (!hasCity()) {
            return NONE;
        }
        switch (what) {
            case 0:
                return town.takes;
            case 1:
                return now.coins;
            case 2:
                return town.old;
            default:
                return NONE;
        }
    }

    public int corner(int corner, int what) {
        if (!hasCorner(corner)) {
            return NONE;
        }
        switch (what) {
            case 0:
                return now.crumb[corner];
            case 1:
                return now.spring[corner];
            default:
                return NONE;
        }
    }

    public int person(int person, int what) throws NoSuchElementException {
        if (!hasPerson(person) || what < 0 || what > 6) {
            throw new NoSuchElementException("no such ones");
        }
        switch (what) {
            case 0:
                return town.motive[person];
            case 1:
                return town.greed[person];
            case 2:
                return now.wary[person];
            case 3:
                return town.from[person];
            case 4:
                return town.to[person];
            case 5:
                return now.way[person];
            default:
                return now.times[person];
        }
    }

    public int log(int i, int what) {
        if (i < 0 || i >= rowsKept()) {
            return NONE;
        }
        switch (what) {
            case 0:
                return history.takenOn(now.day - 1 - i);
            case 1:
                return history.canesOn(now.day - 1 - i);
            case 2:
                return history.coinsOn(now.day - 1 - i);
            default:
                return NONE;
        }
    }

    public int step(int plan, int i, int what) {
        if (!hasPlan(plan) || i < 0 || i >= plans[plan].length) {
            return HIDDEN;
        }
        int step = plans[plan][i];
        int kind = kindOf(step);
        switch (what) {
            case 0:
                return kind;
            case 1:
                return kind == DAY ? NONE : firstOf(step);
            case 2:
                return kind == LAY ? secondOf(step) : NONE;
            default:
                return HIDDEN;
        }
    }

    public int count(int what) {
        switch (what) {
            case 0:
                return town.people;
            case 1:
                return town.corners;
            case 2:
                return lawCount;
            case 3:
                return planCount;
            case 4:
                return tape.length;
            case 5:
                return heldLaw;
            case 6:
                return now.day;
            case 7:
                return timesOfAll();
            case 8:
                return now.constable;
            case 9:
                return dogs;
            case 10:
                return sightings.size;
            case 11:
                return rowsKept();
            case 12:
                return history.acts;
            default:
                return HIDDEN;
        }
    }

    private int timesOfAll() {
        int sum = 0;
        for (int i = 0; i < town.people; i++) {
            sum += now.times[i];
        }
        return sum;
    }

    /** Each DAY writes one row and UNDO and BACK take both away, so the DAY tells how many rows there were. */
    private int rowsKept() {
        return Math.min(now.day, MOST_ROWS);
    }

    private boolean hasCity() {
        return town.people > 0;
    }

    private boolean hasCorner(int corner) {
        return corner >= 0 && corner < town.corners;
    }

    private boolean hasPerson(int person) {
        return person >= 0 && person < town.people;
    }

    private boolean hasPlan(int plan) {
        return plan >= 0 && plan < planCount;
    }

    private static boolean isCrumb(int kind) {
        return kind >= 0 && kind <= HIGHEST_CRUMB;
    }

    // ---- settings that are no acts

    public boolean law(int law) {
        if (law < NONE || law >= lawCount) {
            return false;
        }
        heldLaw = law;
        pull.program = law == NONE ? null : laws[law];
        return true;
    }

    public boolean dogs(int v) {
        if (v < 0 || v > HIGHEST_DOGS || v == dogs) {
            return false;
        }
        dogs = v;
        return true;
    }

    // ---- acts

    public int day() {
        if (!canBe(now, DAY, 0, 0)) {
            return NONE;
        }
        act(DAY, 0, 0);
        return Integer.bitCount(round.taken);
    }

    public int crumb(int corner, int kind) {
        if (!canBe(now, LAY, corner, kind)) {
            return NONE;
        }
        int was = now.crumb[corner];
        act(LAY, corner, kind);
        return was;
    }

    public int renew(int corner) {
        if (!canBe(now, RENEW, corner, 0)) {
            return NONE;
        }
        act(RENEW, corner, 0);
        return now.spring[corner];
    }

    public int constable(int corner) {
        if (!hasCorner(corner) || corner == now.constable) {
            return -2;
        }
        history.keep(now);
        int was = now.constable;
        now.constable = corner;
        return was;
    }

    public int about(int person) {
        if (!canBe(now, TURN, person, 0)) {
            return NONE;
        }
        act(TURN, person, 0);
        return now.way[person];
    }

    public int give(int n) {
        if (!hasCity() || n < 1 || n > 50 || now.coins + n > HIGHEST_COINS) {
            return NONE;
        }
        history.keep(now);
        now.coins += n;
        return now.coins;
    }

    public int years(int n, long seed) {
        if (!hasCity() || n < 1 || n > 30 || now.day + n > LAST_DAY) {
            return NONE;
        }
        draws = seed;
        for (int i = 0; i < n; i++) {
            history.keep(now);
            drawAheadOfDay();
            doStep(now, DAY, 0, 0);
            writeRow();
        }
        return now.day;
    }

    private void drawAheadOfDay() {
        int corner = draw(town.corners);
        now.crumb[corner] = draw(HIGHEST_CRUMB + 1);
        if (draw(10) < dogs) {
            int person = draw(town.people);
            now.way[person] = 1 - now.way[person];
        }
    }

    private int draw(int choices) {
        draws = draws * 6364136223846793005L + 1442695040888963407L;
        return choices <= 0 ? 0 : (int) ((draws >>> 33) % choices);
    }

    public int undo() {
        if (history.acts == 0) {
            return NONE;
        }
        history.restore(now);
        return history.acts;
    }

    public int perform(int plan) {
        if (!hasPlan(plan) || !hasCity()) {
            return NONE;
        }
        int[] steps = plans[plan];
        for (int i = 0; i < steps.length; i++) {
            int kind = kindOf(steps[i]);
            int first = firstOf(steps[i]);
            int second = secondOf(steps[i]);
            if (!canBe(now, kind, first, second)) {
                return i;
            }
            act(kind, first, second);
        }
        return steps.length;
    }

    public int image() {
        if (!hasCity()) {
            return NONE;
        }
        history.takeImage(now);
        return now.day;
    }

    public int back() {
        if (!history.hasImage) {
            return NONE;
        }
        history.showImage(now);
        return now.day;
    }

    /** One ACT by hand or by a PLAN; the caller has asked canBe() first. */
    private void act(int kind, int first, int second) {
        history.keep(now);
        doStep(now, kind, first, second);
        if (kind == DAY) {
            writeRow();
        }
    }

    private void writeRow() {
        history.write(now.day - 1, round.taken, round.canes, now.coins);
    }

    private boolean canBe(State s, int kind, int first, int second) {
        switch (kind) {
            case DAY:
                return hasCity() && s.day < LAST_DAY;
            case LAY:
                return hasCorner(first) && isCrumb(second) && s.crumb[first] != second
                        && s.coins >= priceOf(second);
            case RENEW:
                return hasCorner(first) && s.spring[first] < HIGHEST_SPRING && s.coins >= 1;
            case TURN:
                return hasPerson(first);
            default:
                return false;
        }
    }

    private void doStep(State s, int kind, int first, int second) {
        switch (kind) {
            case DAY:
                round.play(s, town.people, false);
                round.settle(s);
                break;
            case LAY:
                s.crumb[first] = second;
                s.coins -= priceOf(second);
                break;
            case RENEW:
                s.spring[first]++;
                s.coins--;
                break;
            default:
                s.way[first] = 1 - s.way[first];
                break;
        }
    }

    private static int priceOf(int crumb) {
        return crumb == 0 ? 0 : 2;
    }

    private static int stepOf(int kind, int first, int second) {
        return kind * 100 + first * 10 + second;
    }

    private static int kindOf(int step) {
        return step / 100;
    }

    private static int firstOf(int step) {
        return step / 10 % 10;
    }

    private static int secondOf(int step) {
        return step % 10;
    }

    // ---- what would be, apart

    public int run(int plan, int what) {
        if (!hasPlan(plan) || !hasCity() || what < 0 || what > 1) {
            return HIDDEN;
        }
        int[] steps = plans[plan];
        int taken = 0;
        int stop = NONE;
        apart.copyFrom(now);
        for (int i = 0; i < steps.length && stop == NONE; i++) {
            int kind = kindOf(steps[i]);
            int first = firstOf(steps[i]);
            int second = secondOf(steps[i]);
            if (canBe(apart, kind, first, second)) {
                doStep(apart, kind, first, second);
                taken += kind == DAY ? Integer.bitCount(round.taken) : 0;
            } else {
                stop = i;
            }
        }
        return what == 0 ? stop : taken;
    }

    public int pulled(int person, int corner) {
        if (!hasPerson(person) || !hasCorner(corner)) {
            return NONE;
        }
        return pullBySpring(person, corner, now.spring[corner]);
    }

    private int pullBySpring(int person, int corner, int spring) {
        int match = now.crumb[corner] == town.motive[person] ? 1 : 0;
        return pull.strength(match, town.greed[person], now.wary[person], spring, now.times[person], now.day);
    }

    public int caught(int person) {
        if (!hasPerson(person)) {
            return NONE;
        }
        round.play(now, town.people, false);
        return round.at[person];
    }

    public int baits(int people, int what) {
        if (!hasCity() || people < 0 || people >= 1 << town.people || what < 0 || what > 1) {
            return NONE;
        }
        apart.copyFrom(now);
        int best = FAR;
        int answer = NONE;
        int rows = 1 << 2 * town.corners;
        // rows rise, so of several as good the least row is the one that comes first
        for (int row = 0; row < rows; row++) {
            int laid = layRow(row);
            round.play(apart, town.people, row > 0);
            int others = Integer.bitCount(round.taken & ~people);
            int cost = others * 10 + laid;
            if ((round.taken & people) == people && cost < best) {
                best = cost;
                answer = what == 0 ? digitsOfRow() : others;
            }
        }
        return answer;
    }

    /** Lays CRUMBS by a row written in fours; answers how many of them are not 0. */
    private int layRow(int row) {
        int laid = 0;
        for (int c = 0; c < town.corners; c++) {
            int crumb = row >> 2 * (town.corners - 1 - c) & 3;
            apart.crumb[c] = crumb;
            laid += crumb == 0 ? 0 : 1;
        }
        return laid;
    }

    private int digitsOfRow() {
        int digits = 0;
        for (int c = 0; c < town.corners; c++) {
            digits = digits * 10 + apart.crumb[c];
        }
        return digits;
    }

    public int seen(int person, int spring, int crumb, boolean taken) {
        if (!hasPerson(person) || !isLiveSpring(spring) || crumb < 1 || crumb > HIGHEST_CRUMB) {
            return NONE;
        }
        return sightings.add(person, spring, crumb, taken);
    }

    public int moves(int person, int i) {
        if (!hasPerson(person) || i < NONE) {
            return NONE;
        }
        sightings.fit(person);
        if (i == NONE) {
            return sightings.fitting;
        }
        return i < sightings.fitting ? sightings.move[i] : NONE;
    }

    public int ask(int person, int spring) {
        if (!hasPerson(person) || !isLiveSpring(spring)) {
            return NONE;
        }
        sightings.fit(person);
        return sightings.bestQuestion(person, spring);
    }

    private static boolean isLiveSpring(int spring) {
        return spring >= 1 && spring <= HIGHEST_SPRING;
    }

    public int safe(int person) {
        if (!hasPerson(person)) {
            return NONE;
        }
        boolean freeRising = staysFree(person, 0);
        boolean freeFalling = staysFree(person, 1);
        if (freeRising != freeFalling) {
            return freeRising ? 0 : 1;
        }
        return town.walkLength(person, 1) < town.walkLength(person, 0) ? 1 : 0;
    }

    private boolean staysFree(int person, int way) {
        apart.copyFrom(now);
        apart.way[person] = way;
        round.play(apart, town.people, false);
        return round.at[person] == NONE;
    }

    public int passes(int corner) {
        if (!hasCorner(corner)) {
            return NONE;
        }
        int bits = 0;
        for (int i = 0; i < town.people; i++) {
            if (walksBy(i, corner)) {
                bits |= 1 << i;
            }
        }
        return bits;
    }

    private boolean walksBy(int person, int corner) {
        return (town.walkBits(person, now.way[person]) >> corner & 1) == 1;
    }

    public int walk(int person) {
        if (!hasPerson(person)) {
            return NONE;
        }
        return town.walkLength(person, now.way[person]);
    }

    public int game(int person, int corner, int x, int y, int what) {
        if (!hasPerson(person) || !hasCorner(corner) || !isCrumb(x)) {
            return HIDDEN;
        }
        if (y < 0 || y > 1 || what < 0 || what > 1) {
            return HIDDEN;
        }
        playGame(person, corner, x, y);
        return what == 0 ? baiterStake(x, y) : goerStake(x, y);
    }

    public int rests(int person, int corner, int i) {
        if (!hasPerson(person) || !hasCorner(corner) || i < NONE) {
            return NONE;
        }
        for (int x = 0; x <= HIGHEST_CRUMB; x++) {
            playGame(person, corner, x, 0);
            playGame(person, corner, x, 1);
        }
        int found = 0;
        for (int x = 0; x <= HIGHEST_CRUMB; x++) {
            for (int y = 0; y <= 1; y++) {
                if (isRest(x, y)) {
                    if (found == i) {
                        return 10 * x + y;
                    }
                    found++;
                }
            }
        }
        return i == NONE ? found : NONE;
    }

    private void playGame(int person, int corner, int x, int y) {
        apart.copyFrom(now);
        apart.crumb[corner] = x;
        apart.way[person] = y;
        round.play(apart, town.people, false);
        int won = round.at[person] == corner ? 6 : 0;
        int lost = round.at[person] == NONE ? 0 : 6;
        stakes[2 * x + y] = x == 0 ? won : won - 2;
        stakes[GAMES + 2 * x + y] = -lost - town.walkLength(person, y);
    }

    private int baiterStake(int x, int y) {
        return stakes[2 * x + y];
    }

    private int goerStake(int x, int y) {
        return stakes[GAMES + 2 * x + y];
    }

    private boolean isRest(int x, int y) {
        for (int other = 0; other <= HIGHEST_CRUMB; other++) {
            if (baiterStake(other, y) > baiterStake(x, y)) {
                return false;
            }
        }
        return goerStake(x, 1 - y) <= goerStake(x, y);
    }

    public int odds(int person, int chance) {
        if (!hasPerson(person) || chance < 0 || chance > 100) {
            return NONE;
        }
        round.play(now, person, false);
        long left = ALL_PARTS;
        int corner = town.from[person];
        int length = town.walkLength(person, now.way[person]);
        for (int i = 0; i < length; i++) {
            corner = town.beyond(corner, now.way[person]);
            // a CANE lets him go on as a trap that fails does, so it leaves the part whole
            if (round.meets(now, person, corner) == Round.TAKES) {
                left = left * chance / 100;
            }
        }
        return ALL_PARTS - (int) left;
    }

    public int lasts(int corner) {
        if (!hasCorner(corner)) {
            return NONE;
        }
        apart.copyFrom(now);
        for (int days = 0; days <= 60; days++) {
            if (apart.spring[corner] == 0) {
                return days;
            }
            doStep(apart, DAY, 0, 0);
        }
        return NONE;
    }

    public int yearly(int person) {
        if (!hasPerson(person)) {
            return NONE;
        }
        apart.copyFrom(now);
        int times = 0;
        for (int days = 0; days < 30; days++) {
            doStep(apart, DAY, 0, 0);
            times += round.at[person] == NONE ? 0 : 1;
        }
        return times;
    }

    public int all(int what) {
        if (!hasCity()) {
            return NONE;
        }
        switch (what) {
            case 0:
                return busiest();
            case 1:
                return firstHighest(now.spring, town.corners);
            case 2:
                return firstHighest(now.wary, town.people);
            case 3:
                return firstHighest(town.greed, town.people);
            case 4:
                return firstHighest(now.times, town.people);
            case 5:
                return honest();
            case 6:
                return oldOnes();
            case 7:
                return emptyCorners();
            case 8:
                round.play(now, town.people, false);
                return round.taken;
            case 9:
                round.play(now, town.people, false);
                return round.canes;
            case 10:
                return crumbsThatLie();
            default:
                return NONE;
        }
    }

    private int busiest() {
        int best = 0;
        int most = NONE;
        for (int c = 0; c < town.corners; c++) {
            int walks = 0;
            for (int i = 0; i < town.people; i++) {
                walks += walksBy(i, c) ? 1 : 0;
            }
            if (walks > most) {
                most = walks;
                best = c;
            }
        }
        return best;
    }

    private static int firstHighest(int[] of, int length) {
        int best = 0;
        for (int i = 1; i < length && i < of.length; i++) {
            if (of[i] > of[best]) {
                best = i;
            }
        }
        return best;
    }

    private int honest() {
        int bits = 0;
        for (int i = 0; i < town.people; i++) {
            if ((town.walkBits(i, now.way[i]) & cornersWith(town.motive[i])) == 0) {
                bits |= 1 << i;
            }
        }
        return bits;
    }

    private int cornersWith(int crumb) {
        int bits = 0;
        for (int c = 0; c < town.corners; c++) {
            if (now.crumb[c] == crumb) {
                bits |= 1 << c;
            }
        }
        return bits;
    }

    private int oldOnes() {
        int bits = 0;
        for (int i = 0; i < town.people; i++) {
            if (now.times[i] >= town.old) {
                bits |= 1 << i;
            }
        }
        return bits;
    }

    private int emptyCorners() {
        return cornersWith(0);
    }

    private int crumbsThatLie() {
        int unlike = 0;
        for (int crumb = 1; crumb <= HIGHEST_CRUMB; crumb++) {
            unlike += cornersWith(crumb) == 0 ? 0 : 1;
        }
        return unlike;
    }

    public int kinds(int motive) {
        if (!hasCity() || motive < 1 || motive > HIGHEST_CRUMB) {
            return NONE;
        }
        int bits = 0;
        for (int i = 0; i < town.people; i++) {
            if (town.motive[i] == motive) {
                bits |= 1 << i;
            }
        }
        return bits;
    }

    public int needs(int person, int corner) {
        if (!hasPerson(person) || !hasCorner(corner)) {
            return NONE;
        }
        for (int spring = 0; spring <= HIGHEST_SPRING; spring++) {
            if (pullBySpring(person, corner, spring) >= town.takes) {
                return spring;
            }
        }
        return NONE;
    }

    public int shares(int corner, int c) {
        if (!hasCorner(corner) || c < 0 || c > 999) {
            return NONE;
        }
        int springs = 0;
        for (int i = 0; i < town.corners; i++) {
            springs += now.spring[i];
        }
        return springs == 0 ? 0 : c * now.spring[corner] / springs;
    }

    // ---- the classes inside

    /** The bytes that wait to become a text. */
    private static final class Tape {
        final int[] bytes = new int[MOST_BYTES];
        int length;

        int bytesIn(int four) {
            int n = 0;
            for (int shift = 24; shift >= 0; shift -= 8) {
                n += (four >>> shift & 255) == 0 ? 0 : 1;
            }
            return n;
        }

        void put(int four) {
            for (int shift = 24; shift >= 0; shift -= 8) {
                int next = four >>> shift & 255;
                if (next != 0 && length < bytes.length) {
                    bytes[length] = next;
                    length++;
                }
            }
        }
    }

    /** What the readers of the three sorts of text share: the place on the tape and the first fault. */
    private abstract static class Reader {
        final Tape tape;
        int pos;
        int wrong;

        Reader(Tape tape) {
            this.tape = tape;
        }

        /** Reads the whole tape; false: there is a fault, and wrong tells where. */
        abstract boolean reads();

        void start() {
            pos = 0;
            wrong = NONE;
        }

        /** The next sign that is no blank (NONE at the end); it is not taken yet. */
        int sign() {
            while (pos < tape.length && tape.bytes[pos] == ' ') {
                pos++;
            }
            return pos < tape.length ? tape.bytes[pos] : NONE;
        }

        boolean fails(int at) {
            wrong = at;
            return false;
        }

        boolean takes(int wanted) {
            if (sign() != wanted) {
                return fails(pos);
            }
            pos++;
            return true;
        }

        boolean digitHere() {
            return pos < tape.length && tape.bytes[pos] >= '0' && tape.bytes[pos] <= '9';
        }

        /** The number that comes next; NONE, with the fault set, if none does or it has too many digits. */
        int number(int mostDigits) {
            sign();
            int value = 0;
            int digits = 0;
            while (digits < mostDigits && digitHere()) {
                value = value * 10 + tape.bytes[pos] - '0';
                pos++;
                digits++;
            }
            if (digits == 0 || digitHere()) {
                fails(pos);
                return NONE;
            }
            return value;
        }
    }

    private static final class CityReader extends Reader {
        private static final String RULE_LETTERS = "tco";
        private static final int[] RULE_LOW = {1, 0, 1};
        private static final int[] RULE_HIGH = {30, 99, 9};
        private static final int[] RULE_USUAL = {8, 20, 3};
        private static final String CORNER_LETTERS = "ks";
        private static final int[] CORNER_LOW = {0, 0};
        private static final int[] CORNER_HIGH = {3, 9};
        private static final int[] CORNER_USUAL = {0, 5};
        private static final String PERSON_LETTERS = "mgwabr";
        private static final int[] PERSON_LOW = {1, 0, 0, 0, 0, 0};
        private static final int[] PERSON_HIGH = {3, 9, 9, 4, 4, 1};
        private static final int[] PERSON_USUAL = {1, 4, 2, 0, 1, 0};

        final Town draft = new Town();
        private final int[] item = new int[6];
        private boolean ruled;

        CityReader(Tape tape) {
            super(tape);
        }

        boolean reads() {
            start();
            draft.clear();
            draft.setRules(RULE_USUAL);
            ruled = false;
            for (int clauses = 0; clauses <= MOST_BYTES; clauses++) {
                if (!readsClause()) {
                    return false;
                }
                if (sign() == NONE) {
                    return draft.stands() || fails(pos);
                }
                pos++;
            }
            return fails(pos);
        }

        /** One CLAUSE up to its ; or the end. */
        private boolean readsClause() {
            int letter = sign();
            if (letter == 's' && !ruled) {
                return readsRules();
            }
            if (letter == 'c' && draft.corners < MOST_CORNERS) {
                return readsCorner();
            }
            if (letter == 'p' && draft.people < MOST_PEOPLE) {
                return readsPerson();
            }
            return fails(pos);
        }

        private boolean readsRules() {
            pos++;
            ruled = true;
            if (!readsItems(RULE_LETTERS, RULE_LOW, RULE_HIGH, RULE_USUAL)) {
                return false;
            }
            draft.setRules(item);
            return true;
        }

        private boolean readsCorner() {
            pos++;
            if (!readsItems(CORNER_LETTERS, CORNER_LOW, CORNER_HIGH, CORNER_USUAL)) {
                return false;
            }
            draft.addCorner(item);
            return true;
        }

        private boolean readsPerson() {
            pos++;
            if (!readsItems(PERSON_LETTERS, PERSON_LOW, PERSON_HIGH, PERSON_USUAL)) {
                return false;
            }
            draft.addPerson(item);
            return true;
        }

        private boolean readsItems(String letters, int[] low, int[] high, int[] usual) {
            System.arraycopy(usual, 0, item, 0, usual.length);
            int told = 0;
            // each letter stands once at most, so there are no more items than letters
            for (int i = 0; i <= letters.length(); i++) {
                int letter = sign();
                if (letter == NONE || letter == ';') {
                    return true;
                }
                int k = letters.indexOf((char) letter);
                if (k < 0 || (told >> k & 1) == 1) {
                    return fails(pos);
                }
                told |= 1 << k;
                pos++;
                int value = number(2);
                if (value == NONE) {
                    return false;
                }
                if (value < low[k] || value > high[k]) {
                    return fails(pos - 1);
                }
                item[k] = value;
            }
            return fails(pos);
        }
    }

    /** Turns a LAW into a program for Pull: what is joined first, its sign behind it. */
    private static final class LawReader extends Reader {
        private static final String LETTERS = "mgwsnd";
        private static final int DEEPEST = 6;

        private final int[] code = new int[MOST_BYTES];
        private int size;

        LawReader(Tape tape) {
            super(tape);
        }

        int[] program() {
            return Arrays.copyOf(code, size);
        }

        private void emit(int op) {
            // no byte of a LAW gives more than one op, so the code is never longer than the tape
            if (size < code.length) {
                code[size] = op;
                size++;
            }
        }

        boolean reads() {
            start();
            size = 0;
            for (int clauses = 0; clauses <= MOST_BYTES; clauses++) {
                if (!takes('y') || !takes(':') || !readsBody()) {
                    return false;
                }
                emit(Pull.GIVE);
                if (sign() == NONE) {
                    return true;
                }
                if (!takes(';')) {
                    return false;
                }
            }
            return fails(pos);
        }

        private boolean readsBody() {
            boolean condition = startsUnit(sign());
            if (!condition) {
                if (!readsSum(0)) {
                    return false;
                }
                if (comparing(sign()) == NONE) {
                    return true;
                }
            }
            // a SUM that is compared was the left side of the CONDITION's first UNIT
            if (!readsCondition(0, !condition) || !takes('?')) {
                return false;
            }
            emit(Pull.WHEN);
            return readsSum(0);
        }

        private static boolean startsUnit(int sign) {
            return sign == '!' || sign == '(';
        }

        private static int comparing(int sign) {
            switch (sign) {
                case '=':
                    return Pull.SAME;
                case '<':
                    return Pull.LESS;
                case '>':
                    return Pull.MORE;
                default:
                    return NONE;
            }
        }

        private boolean readsCondition(int depth, boolean begun) {
            boolean either = false;
            boolean both = false;
            boolean leftRead = begun;
            for (int units = 0; units <= MOST_BYTES; units++) {
                if (!readsUnit(depth, leftRead)) {
                    return false;
                }
                leftRead = false;
                if (both) {
                    emit(Pull.BOTH);
                }
                int sign = sign();
                both = sign == '&';
                if (!both && either) {
                    emit(Pull.EITHER);
                }
                if (!both && sign != '|') {
                    return true;
                }
                either = either || sign == '|';
                pos++;
            }
            return fails(pos);
        }

        private boolean readsUnit(int depth, boolean leftRead) {
            if (!leftRead) {
                int sign = sign();
                if (startsUnit(sign)) {
                    return readsNested(sign, depth);
                }
                if (!readsSum(depth)) {
                    return false;
                }
            }
            int op = comparing(sign());
            if (op == NONE) {
                return fails(pos);
            }
            pos++;
            if (!readsSum(depth)) {
                return false;
            }
            emit(op);
            return true;
        }

        private boolean readsNested(int sign, int depth) {
            if (depth >= DEEPEST) {
                return fails(pos);
            }
            pos++;
            if (sign == '(') {
                return readsCondition(depth + 1, false) && takes(')');
            }
            if (!readsUnit(depth + 1, false)) {
                return false;
            }
            emit(Pull.NOT);
            return true;
        }

        /** Signs wait till their right side is read: * and / for one ATOM, + and - for a whole TERM. */
        private boolean readsSum(int depth) {
            int adding = NONE;
            int scaling = NONE;
            for (int atoms = 0; atoms <= MOST_BYTES; atoms++) {
                if (!readsAtom(depth)) {
                    return false;
                }
                if (scaling != NONE) {
                    emit(scaling);
                }
                int sign = sign();
                scaling = sign == '*' ? Pull.TIMES : sign == '/' ? Pull.PARTS : NONE;
                if (scaling == NONE) {
                    if (adding != NONE) {
                        emit(adding);
                    }
                    adding = sign == '+' ? Pull.PLUS : sign == '-' ? Pull.MINUS : NONE;
                    if (adding == NONE) {
                        return true;
                    }
                }
                pos++;
            }
            return fails(pos);
        }

        private boolean readsAtom(int depth) {
            int sign = sign();
            if (sign == '[') {
                if (depth >= DEEPEST) {
                    return fails(pos);
                }
                pos++;
                return readsSum(depth + 1) && takes(']');
            }
            int k = sign == NONE ? NONE : LETTERS.indexOf((char) sign);
            if (k >= 0) {
                pos++;
                emit(Pull.LETTER + k);
                return true;
            }
            int value = number(4);
            if (value == NONE) {
                return false;
            }
            emit(value);
            return true;
        }
    }

    private static final class PlanReader extends Reader {
        private static final String LETTERS = "dksr";

        private final int[] read = new int[MOST_STEPS];
        private int size;

        PlanReader(Tape tape) {
            super(tape);
        }

        int[] steps() {
            return Arrays.copyOf(read, size);
        }

        boolean reads() {
            start();
            size = 0;
            for (int steps = 0; steps < MOST_STEPS; steps++) {
                if (steps > 0 && !takes(';')) {
                    return false;
                }
                if (!readsStep()) {
                    return false;
                }
                if (sign() == NONE) {
                    return true;
                }
            }
            return fails(pos);
        }

        private boolean readsStep() {
            int sign = sign();
            int kind = sign == NONE ? NONE : LETTERS.indexOf((char) sign);
            if (kind < 0) {
                return fails(pos);
            }
            pos++;
            int first = kind == DAY ? 0 : digit();
            int second = kind == LAY && first != NONE ? digit() : 0;
            if (first == NONE || second == NONE) {
                return false;
            }
            if (size < read.length) {
                read[size] = stepOf(kind, first, second);
                size++;
            }
            return true;
        }

        private int digit() {
            sign();
            if (!digitHere()) {
                fails(pos);
                return NONE;
            }
            pos++;
            return tape.bytes[pos - 1] - '0';
        }
    }

    /** The CITY as it was told. */
    private static final class Town {
        int corners;
        int people;
        int takes;
        int coins;
        int old;
        final int[] crumb = new int[MOST_CORNERS];
        final int[] spring = new int[MOST_CORNERS];
        final int[] motive = new int[MOST_PEOPLE];
        final int[] greed = new int[MOST_PEOPLE];
        final int[] wary = new int[MOST_PEOPLE];
        final int[] from = new int[MOST_PEOPLE];
        final int[] to = new int[MOST_PEOPLE];
        final int[] way = new int[MOST_PEOPLE];

        void clear() {
            corners = 0;
            people = 0;
        }

        void setRules(int[] item) {
            takes = item[0];
            coins = item[1];
            old = item[2];
        }

        void addCorner(int[] item) {
            crumb[corners] = item[0];
            spring[corners] = item[1];
            corners++;
        }

        void addPerson(int[] item) {
            motive[people] = item[0];
            greed[people] = item[1];
            wary[people] = item[2];
            from[people] = item[3];
            to[people] = item[4];
            way[people] = item[5];
            people++;
        }

        /** What only the whole text can tell: enough of each, and everyone between two CORNERS that are there. */
        boolean stands() {
            if (corners < 2 || people < 1) {
                return false;
            }
            for (int i = 0; i < people; i++) {
                if (from[i] == to[i] || from[i] >= corners || to[i] >= corners) {
                    return false;
                }
            }
            return true;
        }

        void copyFrom(Town other) {
            corners = other.corners;
            people = other.people;
            takes = other.takes;
            coins = other.coins;
            old = other.old;
            System.arraycopy(other.crumb, 0, crumb, 0, MOST_CORNERS);
            System.arraycopy(other.spring, 0, spring, 0, MOST_CORNERS);
            System.arraycopy(other.motive, 0, motive, 0, MOST_PEOPLE);
            System.arraycopy(other.greed, 0, greed, 0, MOST_PEOPLE);
            System.arraycopy(other.wary, 0, wary, 0, MOST_PEOPLE);
            System.arraycopy(other.from, 0, from, 0, MOST_PEOPLE);
            System.arraycopy(other.to, 0, to, 0, MOST_PEOPLE);
            System.arraycopy(other.way, 0, way, 0, MOST_PEOPLE);
        }

        int beyond(int corner, int way) {
            if (way == 0) {
                return corner + 1 < corners ? corner + 1 : 0;
            }
            return corner > 0 ? corner - 1 : corners - 1;
        }

        int walkLength(int person, int way) {
            int rising = to[person] - from[person];
            int length = way == 0 ? rising : -rising;
            return length < 0 ? length + corners : length;
        }

        int walkBits(int person, int way) {
            int bits = 0;
            int corner = from[person];
            int length = walkLength(person, way);
            for (int i = 0; i < length; i++) {
                corner = beyond(corner, way);
                bits |= 1 << corner;
            }
            return bits;
        }
    }

    /** All that ACTS change, but for the LOG. */
    private static final class State {
        final int[] crumb = new int[MOST_CORNERS];
        final int[] spring = new int[MOST_CORNERS];
        final int[] wary = new int[MOST_PEOPLE];
        final int[] times = new int[MOST_PEOPLE];
        final int[] way = new int[MOST_PEOPLE];
        int constable = NONE;
        int coins;
        int day;

        void begin(Town town) {
            System.arraycopy(town.crumb, 0, crumb, 0, MOST_CORNERS);
            System.arraycopy(town.spring, 0, spring, 0, MOST_CORNERS);
            System.arraycopy(town.wary, 0, wary, 0, MOST_PEOPLE);
            System.arraycopy(town.way, 0, way, 0, MOST_PEOPLE);
            Arrays.fill(times, 0);
            constable = NONE;
            coins = town.coins;
            day = 0;
        }

        void copyFrom(State other) {
            System.arraycopy(other.crumb, 0, crumb, 0, MOST_CORNERS);
            System.arraycopy(other.spring, 0, spring, 0, MOST_CORNERS);
            System.arraycopy(other.wary, 0, wary, 0, MOST_PEOPLE);
            System.arraycopy(other.times, 0, times, 0, MOST_PEOPLE);
            System.arraycopy(other.way, 0, way, 0, MOST_PEOPLE);
            constable = other.constable;
            coins = other.coins;
            day = other.day;
        }
    }

    /** How strongly one is pulled, by the LAW that holds. */
    private static final class Pull {
        // an op below LETTER is a number of the LAW itself
        static final int LETTER = 10000;
        static final int PLUS = 10006;
        static final int MINUS = 10007;
        static final int TIMES = 10008;
        static final int PARTS = 10009;
        static final int SAME = 10010;
        static final int LESS = 10011;
        static final int MORE = 10012;
        static final int BOTH = 10013;
        static final int EITHER = 10014;
        static final int NOT = 10015;
        static final int WHEN = 10016;
        static final int GIVE = 10017;
        private static final int BOUND = 1000000;

        /** The LAW that holds; null: none. */
        int[] program;
        private final int[] letters = new int[6];
        // six levels of nesting leave at most some twenty values waiting
        private final int[] stack = new int[32];
        private int top;

        int strength(int match, int greed, int wary, int spring, int times, int day) {
            int pull;
            if (program == null) {
                pull = match * 2 * greed + spring - wary;
            } else {
                letters[0] = match;
                letters[1] = greed;
                letters[2] = wary;
                letters[3] = spring;
                letters[4] = times;
                letters[5] = day;
                pull = worth(program);
            }
            return Math.max(0, Math.min(HIGHEST_PULL, pull));
        }

        private int worth(int[] ops) {
            top = 0;
            boolean passesOver = false;
            for (int i = 0; i < ops.length; i++) {
                int op = ops[i];
                if (passesOver) {
                    passesOver = op != GIVE;
                } else if (op == GIVE) {
                    return pop();
                } else if (op == WHEN) {
                    passesOver = pop() == 0;
                } else if (op < LETTER) {
                    push(op);
                } else if (op < PLUS) {
                    push(letters[op - LETTER]);
                } else if (op == NOT) {
                    push(pop() == 0 ? 1 : 0);
                } else {
                    int right = pop();
                    int left = pop();
                    push(joined(op, left, right));
                }
            }
            return 0;
        }

        private void push(int value) {
            if (top < stack.length) {
                stack[top] = value;
                top++;
            }
        }

        private int pop() {
            if (top == 0) {
                return 0;
            }
            top--;
            return stack[top];
        }

        private static int joined(int op, int left, int right) {
            long value;
            switch (op) {
                case PLUS:
                    value = left + right;
                    break;
                case MINUS:
                    value = left - right;
                    break;
                case TIMES:
                    value = (long) left * right;
                    break;
                case PARTS:
                    value = right == 0 ? 0 : left / right;
                    break;
                case SAME:
                    value = left == right ? 1 : 0;
                    break;
                case LESS:
                    value = left < right ? 1 : 0;
                    break;
                case MORE:
                    value = left > right ? 1 : 0;
                    break;
                case BOTH:
                    value = left & right;
                    break;
                default:
                    value = left | right;
                    break;
            }
            return (int) (value < -BOUND ? -BOUND : value > BOUND ? BOUND : value);
        }
    }

    /** One DAY: who is TAKEN where. Playing it changes no State; settling it does. */
    private static final class Round {
        static final int NOTHING = 0;
        static final int CANE = 1;
        static final int TAKES = 2;

        private final Town town;
        private final Pull pull;
        final int[] at = new int[MOST_PEOPLE];
        int taken;
        int canes;
        private int sprung;
        // whether a CORNER's PULL is enough, by person, CORNER and match: 0 not known yet, 1 no, 2 yes
        private final int[] enough = new int[MOST_PEOPLE * MOST_CORNERS * 2];

        Round(Town town, Pull pull) {
            this.town = town;
            this.pull = pull;
        }

        /**
         * The first people of the CITY go, as many as told. PULL is the same for States that differ in
         * CRUMBS and WAYS alone: with pullKnown it is not asked for again.
         */
        void play(State s, int people, boolean pullKnown) {
            if (!pullKnown) {
                Arrays.fill(enough, 0);
            }
            Arrays.fill(at, NONE);
            taken = 0;
            canes = 0;
            sprung = 0;
            for (int i = 0; i < people; i++) {
                int corner = town.from[i];
                int length = town.walkLength(i, s.way[i]);
                for (int k = 0; k < length && at[i] == NONE; k++) {
                    corner = town.beyond(corner, s.way[i]);
                    snaps(i, corner, meets(s, i, corner));
                }
            }
        }

        private void snaps(int person, int corner, int meeting) {
            if (meeting == NOTHING) {
                return;
            }
            sprung |= 1 << corner;
            if (meeting == CANE) {
                canes++;
            } else {
                at[person] = corner;
                taken |= 1 << person;
            }
        }

        /** What one meets at a CORNER to which he comes. */
        int meets(State s, int person, int corner) {
            if ((sprung >> corner & 1) == 1 || s.spring[corner] == 0 || s.crumb[corner] == 0) {
                return NOTHING;
            }
            int match = s.crumb[corner] == town.motive[person] ? 1 : 0;
            int k = (person * MOST_CORNERS + corner) * 2 + match;
            if (enough[k] == 0) {
                int strength = pull.strength(match, town.greed[person], s.wary[person], s.spring[corner],
                        s.times[person], s.day);
                enough[k] = strength >= town.takes ? 2 : 1;
            }
            if (enough[k] == 1) {
                return NOTHING;
            }
            return s.times[person] >= town.old && s.constable != corner ? CANE : TAKES;
        }

        /**
         * A trap that took one is not set any more and who was TAKEN goes no further, so nothing that
         * changes here could have mattered earlier on the same DAY.
         */
        void settle(State s) {
            for (int i = 0; i < town.people; i++) {
                if (at[i] != NONE) {
                    s.spring[at[i]]--;
                    s.times[i] = Math.min(HIGHEST_TIMES, s.times[i] + 1);
                    s.wary[i] = Math.min(HIGHEST_WARY, s.wary[i] + 1);
                    s.coins = Math.min(HIGHEST_COINS, s.coins + 1);
                }
            }
            s.day++;
        }
    }

    /** What is kept of what was: ACTS that can be UNDONE, the LOG and the IMAGE. */
    private static final class History {
        // UNDO must bring back rows that later DAYS pushed out, so more are held than are told
        private static final int ROWS = MOST_ROWS + MOST_ACTS;

        private final State[] past = new State[MOST_ACTS];
        private int latest;
        int acts;
        private final int[] rows = new int[ROWS];
        private final State image = new State();
        private final int[] imageRows = new int[ROWS];
        boolean hasImage;

        void clear() {
            acts = 0;
            hasImage = false;
        }

        void keep(State now) {
            latest = latest + 1 < MOST_ACTS ? latest + 1 : 0;
            State kept = past[latest];
            if (kept == null) {
                kept = new State();
                past[latest] = kept;
            }
            kept.copyFrom(now);
            acts = Math.min(MOST_ACTS, acts + 1);
        }

        void restore(State now) {
            State kept = past[latest];
            if (acts == 0 || kept == null) {
                return;
            }
            now.copyFrom(kept);
            latest = latest > 0 ? latest - 1 : MOST_ACTS - 1;
            acts--;
        }

        void write(int day, int taken, int canes, int coins) {
            rows[place(day)] = taken | canes << 6 | coins << 12;
        }

        int takenOn(int day) {
            return rows[place(day)] & 63;
        }

        int canesOn(int day) {
            return rows[place(day)] >> 6 & 63;
        }

        int coinsOn(int day) {
            return rows[place(day)] >> 12;
        }

        private static int place(int day) {
            return Math.floorMod(day, ROWS);
        }

        void takeImage(State now) {
            image.copyFrom(now);
            System.arraycopy(rows, 0, imageRows, 0, ROWS);
            hasImage = true;
        }

        void showImage(State now) {
            now.copyFrom(image);
            System.arraycopy(imageRows, 0, rows, 0, ROWS);
            acts = 0;
        }
    }

    /** What was SEEN, and by which motives and greeds it can be so. */
    private static final class Sightings {
        private final Town town;
        private final Pull pull;
        private final int[] who = new int[MOST_SEEN];
        private final int[] spring = new int[MOST_SEEN];
        private final int[] crumb = new int[MOST_SEEN];
        private final boolean[] taken = new boolean[MOST_SEEN];
        int size;
        final int[] move = new int[30];
        int fitting;

        Sightings(Town town, Pull pull) {
            this.town = town;
            this.pull = pull;
        }

        void clear() {
            size = 0;
        }

        int add(int person, int bySpring, int byCrumb, boolean wasTaken) {
            if (size >= MOST_SEEN) {
                return NONE;
            }
            who[size] = person;
            spring[size] = bySpring;
            crumb[size] = byCrumb;
            taken[size] = wasTaken;
            size++;
            return size;
        }

        /** Finds the MOVES of one, rising. */
        void fit(int person) {
            fitting = 0;
            for (int motive = 1; motive <= HIGHEST_CRUMB; motive++) {
                for (int greed = 0; greed <= 9; greed++) {
                    if (fitsAll(person, 10 * motive + greed)) {
                        move[fitting] = 10 * motive + greed;
                        fitting++;
                    }
                }
            }
        }

        private boolean fitsAll(int person, int moving) {
            for (int i = 0; i < size; i++) {
                if (who[i] == person && wouldTake(person, moving, spring[i], crumb[i]) != taken[i]) {
                    return false;
                }
            }
            return true;
        }

        private boolean wouldTake(int person, int moving, int bySpring, int byCrumb) {
            int match = byCrumb == moving / 10 ? 1 : 0;
            return pull.strength(match, moving % 10, town.wary[person], bySpring, 0, 0) >= town.takes;
        }

        /** The CRUMB that parts the MOVES found by fit() most evenly. */
        int bestQuestion(int person, int bySpring) {
            if (fitting == 0) {
                return NONE;
            }
            int best = NONE;
            int least = FAR;
            for (int byCrumb = 1; byCrumb <= HIGHEST_CRUMB; byCrumb++) {
                int apart = 0;
                for (int i = 0; i < fitting; i++) {
                    apart += wouldTake(person, move[i], bySpring, byCrumb) ? 1 : -1;
                }
                if (Math.abs(apart) < least) {
                    least = Math.abs(apart);
                    best = byCrumb;
                }
            }
            return best;
        }
    }
}
