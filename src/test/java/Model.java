import java.util.ArrayDeque;
import java.util.ArrayList;
import java.util.Arrays;
import java.util.Deque;
import java.util.List;
import java.util.NoSuchElementException;
import java.util.function.IntUnaryOperator;
import java.util.regex.Matcher;
import java.util.regex.Pattern;

/**
 * The document told a second time, in the most literal way and without regard to speed, so that
 * TrapCorner's answers can be compared with it. It shares no code and no technique with TrapCorner
 * where another one was at hand: texts are judged by automata, laws are reckoned from their bytes,
 * a day changes the city while it goes.
 */
final class Model {
    static final int NONE = -1;
    static final int HIDDEN = -1000000;

    /** All that an image keeps and an undone act brings back. */
    static final class City {
        int takes = 8;
        int coins = 20;
        int old = 3;
        List<int[]> corners = new ArrayList<>(); // crumb, spring
        List<int[]> people = new ArrayList<>(); // motive, greed, wary, from, to, way, times, told wary
        int constable = NONE;
        int day = 0;
        List<int[]> log = new ArrayList<>();

        City copy() {
            City c = new City();
            c.takes = takes;
            c.coins = coins;
            c.old = old;
            for (int[] x : corners) {
                c.corners.add(x.clone());
            }
            for (int[] x : people) {
                c.people.add(x.clone());
            }
            c.constable = constable;
            c.day = day;
            c.log.addAll(log);
            return c;
        }
    }

    /** What a day brought. */
    static final class Outcome {
        int[] where = new int[6];
        int taken;
        int canes;
        boolean[] unset = new boolean[5];
    }

    StringBuilder tape = new StringBuilder();
    City city;
    City image;
    Deque<City> acts = new ArrayDeque<>();
    List<String> laws = new ArrayList<>();
    List<String> plans = new ArrayList<>();
    List<int[]> sightings = new ArrayList<>();
    int held = NONE;
    int dogs = 2;

    // ---- texts

    int feed(int... five) {
        StringBuilder more = new StringBuilder();
        for (int v : five) {
            for (int k = 3; k >= 0; k--) {
                int b = (v >> (8 * k)) & 0xff;
                if (b != 0) {
                    more.append((char) b);
                }
            }
        }
        if (tape.length() + more.length() > 240) {
            return NONE;
        }
        tape.append(more);
        return tape.length();
    }

    boolean end(int n) {
        if (n < 0 || n > tape.length()) {
            return false;
        }
        tape.setLength(n);
        return true;
    }

    int fault(int sort) {
        String t = tape.toString();
        return sort == 0 ? cityFault(t, new City()) : sort == 1 ? lawFault(t) : sort == 2 ? planFault(t) : -2;
    }

    static final String[] LETTERS = {"tco", "ks", "mgwabr"};
    static final int[][] LOW = {{1, 0, 1}, {0, 0}, {1, 0, 0, 0, 0, 0}};
    static final int[][] HIGH = {{30, 99, 9}, {3, 9}, {3, 9, 9, 4, 4, 1}};

    /** Byte by byte; fills the city on the way. */
    static int cityFault(String t, City out) {
        char state = ';'; // ; a clause must begin, i items may come, n a number must begin, d in a number
        int sort = -1;
        int item = -1;
        String digits = "";
        boolean ruled = false;
        String used = "";
        int[] value = null;
        for (int p = 0; p <= t.length(); p++) {
            int b = p < t.length() ? t.charAt(p) : -1;
            boolean digit = b >= '0' && b <= '9';
            if (state == 'd') {
                if (digit && digits.length() == 2) {
                    return p;
                }
                if (digit) {
                    digits += (char) b;
                    continue;
                }
                int v = Integer.parseInt(digits);
                if (v < LOW[sort][item] || v > HIGH[sort][item]) {
                    return p - 1;
                }
                value[item] = v;
                state = 'i';
            }
            if (b == ' ') {
                continue;
            }
            if (state == 'n') {
                if (!digit) {
                    return p;
                }
                digits = "" + (char) b;
                state = 'd';
                continue;
            }
            if (state == 'i') {
                if (b == ';' || b == -1) {
                    if (sort == 0) {
                        out.takes = value[0];
                        out.coins = value[1];
                        out.old = value[2];
                    } else if (sort == 1) {
                        out.corners.add(value);
                    } else {
                        out.people.add(new int[] {value[0], value[1], value[2], value[3], value[4], value[5], 0, value[2]});
                    }
                    state = ';';
                    if (b == -1) {
                        break;
                    }
                    continue;
                }
                item = LETTERS[sort].indexOf(b);
                if (item < 0 || used.indexOf(b) >= 0) {
                    return p;
                }
                used += (char) b;
                state = 'n';
                continue;
            }
            sort = b == -1 ? -1 : "scp".indexOf(b);
            if (sort < 0 || sort == 0 && ruled || sort == 1 && out.corners.size() == 5
                    || sort == 2 && out.people.size() == 6) {
                return p;
            }
            ruled |= sort == 0;
            used = "";
            value = sort == 0 ? new int[] {8, 20, 3} : sort == 1 ? new int[] {0, 5} : new int[] {1, 4, 2, 0, 1, 0};
            state = 'i';
        }
        if (out.corners.size() < 2 || out.people.isEmpty()) {
            return t.length();
        }
        for (int[] who : out.people) {
            if (who[3] == who[4] || Math.max(who[3], who[4]) >= out.corners.size()) {
                return t.length();
            }
        }
        return NONE;
    }

    /** A pushdown automaton. Frames: B a body's first sum, L and R sides of a comparison, V the value, and ( [ !. */
    static int lawFault(String t) {
        String stack = "";
        char state = 'y'; // y, :, u a unit must begin, a an atom must begin, 1 in a number, A behind an atom, U behind a unit
        boolean body = false;
        int digits = 0;
        for (int p = 0; p <= t.length(); p++) {
            int b = p < t.length() ? t.charAt(p) : -1;
            boolean digit = b >= '0' && b <= '9';
            if (state == '1') {
                if (digit) {
                    digits++;
                    if (digits > 4) {
                        return p;
                    }
                    continue;
                }
                state = 'A';
            }
            if (b == ' ') {
                continue;
            }
            if (state == 'y') {
                if (b != 'y') {
                    return p;
                }
                state = ':';
                continue;
            }
            if (state == ':') {
                if (b != ':') {
                    return p;
                }
                state = 'u';
                body = true;
                continue;
            }
            if (state == 'u') {
                if (b == '!' || b == '(') {
                    if (nested(stack) == 6) {
                        return p;
                    }
                    stack += (char) b;
                    body = false;
                    continue;
                }
                stack += body ? 'B' : 'L';
                body = false;
                state = 'a';
            }
            if (state == 'a') {
                if (digit) {
                    digits = 1;
                    state = '1';
                } else if (b != -1 && "mgwsnd".indexOf(b) >= 0) {
                    state = 'A';
                } else if (b == '[' && nested(stack) < 6) {
                    stack += '[';
                } else {
                    return p;
                }
                continue;
            }
            char top = stack.isEmpty() ? '0' : stack.charAt(stack.length() - 1);
            if (state == 'A') {
                if (b == '+' || b == '-' || b == '*' || b == '/') {
                    state = 'a';
                    continue;
                }
                if (b == ']' && top == '[') {
                    stack = stack.substring(0, stack.length() - 1);
                    continue;
                }
                if ((b == '=' || b == '<' || b == '>') && (top == 'L' || top == 'B')) {
                    stack = stack.substring(0, stack.length() - 1) + 'R';
                    state = 'a';
                    continue;
                }
                if (top == 'V' || top == 'B') {
                    if (b == -1) {
                        return NONE;
                    }
                    if (b != ';') {
                        return p;
                    }
                    stack = "";
                    state = 'y';
                    continue;
                }
                if (top != 'R') {
                    return p;
                }
                stack = stack.substring(0, stack.length() - 1).replaceAll("!+$", "");
                state = 'U';
                top = stack.isEmpty() ? '0' : stack.charAt(stack.length() - 1);
            }
            if (b == '&' || b == '|') {
                state = 'u';
            } else if (b == ')' && top == '(') {
                stack = stack.substring(0, stack.length() - 1).replaceAll("!+$", "");
            } else if (b == '?' && stack.isEmpty()) {
                stack = "V";
                state = 'a';
            } else {
                return p;
            }
        }
        return t.length();
    }

    static int nested(String stack) {
        int n = 0;
        for (char c : stack.toCharArray()) {
            n += c == '(' || c == '[' || c == '!' ? 1 : 0;
        }
        return n;
    }

    static final String STEP = "(?:d|k *[0-9] *[0-9]|[sr] *[0-9])";
    static final Pattern PLAN = Pattern.compile(" *" + STEP + " *(?:; *" + STEP + " *){0,15}");

    static int planFault(String t) {
        for (int p = 1; p <= t.length(); p++) {
            Matcher m = PLAN.matcher(t.substring(0, p));
            if (!m.matches() && !m.hitEnd()) {
                return p - 1;
            }
        }
        return PLAN.matcher(t).matches() ? NONE : t.length();
    }

    int text(int sort) {
        if (sort < 0 || sort > 2 || fault(sort) != NONE) {
            return NONE;
        }
        List<String> kept = sort == 1 ? laws : plans;
        if (sort != 0) {
            if (kept.size() == 4) {
                return NONE;
            }
            kept.add(tape.toString().replace(" ", ""));
            tape.setLength(0);
            return kept.size() - 1;
        }
        city = new City();
        cityFault(tape.toString(), city);
        tape.setLength(0);
        image = null;
        acts.clear();
        sightings.clear();
        return city.people.size();
    }

    // ---- laws, reckoned from their bytes

    private String lawText;
    private int at;
    private int[] letter;

    int pull(City c, int[] who, int motive, int greed, int crumb, int spring) {
        return pull(crumb == motive ? 1 : 0, greed, who[2], spring, who[6], c.day);
    }

    int pull(int m, int g, int w, int s, int n, int d) {
        long worth;
        if (held == NONE) {
            worth = (m == 1 ? 2 * g : 0) + s - w;
        } else {
            letter = new int[] {m, g, w, s, n, d};
            worth = 0;
            for (String clause : laws.get(held).split(";")) {
                int mark = clause.indexOf('?');
                lawText = mark < 0 ? "" : clause.substring(2, mark);
                at = 0;
                if (mark < 0 || either()) {
                    lawText = clause.substring(mark < 0 ? 2 : mark + 1);
                    at = 0;
                    worth = sum();
                    break;
                }
            }
        }
        return (int) Math.max(0, Math.min(40, worth));
    }

    private char here() {
        return at < lawText.length() ? lawText.charAt(at) : '.';
    }

    private boolean either() {
        boolean v = both();
        while (here() == '|') {
            at++;
            v = both() | v;
        }
        return v;
    }

    private boolean both() {
        boolean v = unit();
        while (here() == '&') {
            at++;
            v = unit() & v;
        }
        return v;
    }

    private boolean unit() {
        if (here() == '!') {
            at++;
            return !unit();
        }
        if (here() == '(') {
            at++;
            boolean v = either();
            at++;
            return v;
        }
        long left = sum();
        char sign = here();
        at++;
        long right = sum();
        return sign == '=' ? left == right : sign == '<' ? left < right : left > right;
    }

    private long sum() {
        long v = term();
        while (here() == '+' || here() == '-') {
            char sign = here();
            at++;
            long w = term();
            v = within(sign == '+' ? v + w : v - w);
        }
        return v;
    }

    private long term() {
        long v = atom();
        while (here() == '*' || here() == '/') {
            char sign = here();
            at++;
            long w = atom();
            v = within(sign == '*' ? v * w : w == 0 ? 0 : v / w);
        }
        return v;
    }

    private long atom() {
        if (here() == '[') {
            at++;
            long v = sum();
            at++;
            return v;
        }
        int k = "mgwsnd".indexOf(here());
        if (k >= 0) {
            at++;
            return letter[k];
        }
        long v = 0;
        while (Character.isDigit(here())) {
            v = 10 * v + here() - '0';
            at++;
        }
        return v;
    }

    private static long within(long v) {
        return Math.max(-1000000, Math.min(1000000, v));
    }

    // ---- days

    static List<Integer> walkOf(City c, int[] who, int way) {
        List<Integer> out = new ArrayList<>();
        int n = c.corners.size();
        int k = who[3];
        while (k != who[4]) {
            k = Math.floorMod(k + (way == 0 ? 1 : -1), n);
            out.add(k);
        }
        return out;
    }

    /** A day goes by in c itself. */
    Outcome pass(City c) {
        Outcome o = new Outcome();
        Arrays.fill(o.where, NONE);
        boolean[] unset = o.unset;
        for (int i = 0; i < c.people.size(); i++) {
            int[] who = c.people.get(i);
            for (int k : walkOf(c, who, who[5])) {
                int[] trap = c.corners.get(k);
                if (unset[k] || trap[1] <= 0 || trap[0] == 0 || pull(c, who, who[0], who[1], trap[0], trap[1]) < c.takes) {
                    continue;
                }
                unset[k] = true;
                if (who[6] >= c.old && c.constable != k) {
                    o.canes++;
                    continue;
                }
                trap[1]--;
                who[6] = Math.min(99, who[6] + 1);
                c.coins = Math.min(999, c.coins + 1);
                o.where[i] = k;
                o.taken |= 1 << i;
                break;
            }
        }
        for (int i = 0; i < c.people.size(); i++) {
            if (o.where[i] != NONE) {
                c.people.get(i)[2] = Math.min(9, c.people.get(i)[2] + 1);
            }
        }
        c.day++;
        c.log.add(0, new int[] {o.taken, o.canes, c.coins});
        if (c.log.size() > 60) {
            c.log.remove(60);
        }
        return o;
    }

    Outcome now() {
        return pass(city.copy());
    }

    boolean isCorner(int k) {
        return city != null && k >= 0 && k < city.corners.size();
    }

    boolean isPerson(int i) {
        return city != null && i >= 0 && i < city.people.size();
    }

    // ---- answers

    int rule(int what) {
        return city == null ? NONE : what == 0 ? city.takes : what == 1 ? city.coins : what == 2 ? city.old : NONE;
    }

    int corner(int k, int what) {
        return !isCorner(k) || what < 0 || what > 1 ? NONE : city.corners.get(k)[what];
    }

    int person(int i, int what) {
        if (!isPerson(i) || what < 0 || what > 6) {
            throw new NoSuchElementException();
        }
        return city.people.get(i)[what];
    }

    boolean law(int k) {
        if (k < NONE || k >= laws.size()) {
            return false;
        }
        held = k;
        return true;
    }

    boolean dogs(int v) {
        if (v < 0 || v > 9 || v == dogs) {
            return false;
        }
        dogs = v;
        return true;
    }

    void remember() {
        acts.push(city.copy());
        if (acts.size() > 40) {
            acts.removeLast();
        }
    }

    int day() {
        if (city == null || city.day >= 999) {
            return NONE;
        }
        remember();
        return Integer.bitCount(pass(city).taken);
    }

    int crumb(int k, int kind) {
        if (!isCorner(k) || kind < 0 || kind > 3 || city.corners.get(k)[0] == kind || kind != 0 && city.coins < 2) {
            return NONE;
        }
        remember();
        int was = city.corners.get(k)[0];
        city.corners.get(k)[0] = kind;
        city.coins -= kind == 0 ? 0 : 2;
        return was;
    }

    int renew(int k) {
        if (!isCorner(k) || city.corners.get(k)[1] == 9 || city.coins < 1) {
            return NONE;
        }
        remember();
        city.coins--;
        return ++city.corners.get(k)[1];
    }

    int constable(int k) {
        if (!isCorner(k) || city.constable == k) {
            return -2;
        }
        remember();
        int was = city.constable;
        city.constable = k;
        return was;
    }

    int about(int i) {
        if (!isPerson(i)) {
            return NONE;
        }
        remember();
        return city.people.get(i)[5] ^= 1;
    }

    int give(int n) {
        if (city == null || n < 1 || n > 50 || city.coins + n > 999) {
            return NONE;
        }
        remember();
        return city.coins += n;
    }

    private long x;

    private int draw(int j) {
        x = x * 6364136223846793005L + 1442695040888963407L;
        return (int) Long.remainderUnsigned(x >>> 33, j);
    }

    int years(int n, long seed) {
        if (city == null || n < 1 || n > 30 || city.day + n > 999) {
            return NONE;
        }
        x = seed;
        for (int i = 0; i < n; i++) {
            remember();
            int k = draw(city.corners.size());
            city.corners.get(k)[0] = draw(4);
            if (draw(10) < dogs) {
                city.people.get(draw(city.people.size()))[5] ^= 1;
            }
            pass(city);
        }
        return city.day;
    }

    int undo() {
        if (acts.isEmpty()) {
            return NONE;
        }
        city = acts.pop();
        return acts.size();
    }

    int log(int i, int what) {
        return city == null || i < 0 || i >= city.log.size() || what < 0 || what > 2 ? NONE : city.log.get(i)[what];
    }

    int step(int plan, int i, int what) {
        if (plan < 0 || plan >= plans.size() || i < 0 || what < 0 || what > 2) {
            return HIDDEN;
        }
        String[] steps = plans.get(plan).split(";");
        if (i >= steps.length) {
            return HIDDEN;
        }
        return what == 0 ? "dksr".indexOf(steps[i].charAt(0)) : what < steps[i].length() ? steps[i].charAt(what) - '0' : NONE;
    }

    /** The plan is done by hand on this model; with keep it stays done, else all is as it was. */
    private int[] go(int plan, boolean keep) {
        City before = city.copy();
        Deque<City> actsBefore = new ArrayDeque<>(acts);
        int taken = 0;
        int done = 0;
        for (String s : plans.get(plan).split(";")) {
            int a = s.length() > 1 ? s.charAt(1) - '0' : 0;
            int b = s.length() > 2 ? s.charAt(2) - '0' : 0;
            int r = s.charAt(0) == 'd' ? day() : s.charAt(0) == 'k' ? crumb(a, b) : s.charAt(0) == 's' ? renew(a) : about(a);
            if (r == NONE) {
                break;
            }
            taken += s.equals("d") ? r : 0;
            done++;
        }
        if (!keep) {
            city = before;
            acts = actsBefore;
        }
        return new int[] {done, taken};
    }

    int run(int plan, int what) {
        if (city == null || plan < 0 || plan >= plans.size() || what < 0 || what > 1) {
            return HIDDEN;
        }
        int[] r = go(plan, false);
        return what == 1 ? r[1] : r[0] == plans.get(plan).split(";").length ? NONE : r[0];
    }

    int perform(int plan) {
        return city == null || plan < 0 || plan >= plans.size() ? NONE : go(plan, true)[0];
    }

    int pulled(int i, int k) {
        if (!isPerson(i) || !isCorner(k)) {
            return NONE;
        }
        int[] who = city.people.get(i);
        return pull(city, who, who[0], who[1], city.corners.get(k)[0], city.corners.get(k)[1]);
    }

    int caught(int i) {
        return isPerson(i) ? now().where[i] : NONE;
    }

    int baits(int people, int what) {
        if (city == null || people < 0 || people >= 1 << city.people.size() || what < 0 || what > 1) {
            return NONE;
        }
        int n = city.corners.size();
        int[] best = null;
        for (int row = 0; row < Math.pow(10, n); row++) {
            City c = city.copy();
            int rest = row;
            int laid = 0;
            boolean fine = true;
            for (int k = n - 1; k >= 0; k--) {
                c.corners.get(k)[0] = rest % 10;
                fine &= rest % 10 <= 3;
                laid += rest % 10 == 0 ? 0 : 1;
                rest /= 10;
            }
            if (!fine) {
                continue;
            }
            int taken = pass(c).taken;
            int others = Integer.bitCount(taken & ~people);
            if ((taken & people) == people
                    && (best == null || others < best[1] || others == best[1] && laid < best[2])) {
                best = new int[] {row, others, laid};
            }
        }
        return best == null ? NONE : best[what];
    }

    int seen(int i, int spring, int crumb, boolean taken) {
        if (!isPerson(i) || spring < 1 || spring > 9 || crumb < 1 || crumb > 3 || sightings.size() == 10) {
            return NONE;
        }
        sightings.add(new int[] {i, spring, crumb, taken ? 1 : 0});
        return sightings.size();
    }

    private boolean would(int i, int move, int spring, int crumb) {
        return pull(crumb == move / 10 ? 1 : 0, move % 10, city.people.get(i)[7], spring, 0, 0) >= city.takes;
    }

    private List<Integer> movesOf(int i) {
        List<Integer> out = new ArrayList<>();
        for (int move = 10; move < 40; move++) {
            boolean fits = true;
            for (int[] s : sightings) {
                fits &= s[0] != i || would(i, move, s[1], s[2]) == (s[3] == 1);
            }
            if (fits) {
                out.add(move);
            }
        }
        return out;
    }

    int moves(int i, int k) {
        if (!isPerson(i) || k < NONE) {
            return NONE;
        }
        List<Integer> m = movesOf(i);
        return k == NONE ? m.size() : k < m.size() ? m.get(k) : NONE;
    }

    int ask(int i, int spring) {
        if (!isPerson(i) || spring < 1 || spring > 9 || movesOf(i).isEmpty()) {
            return NONE;
        }
        int[] apart = new int[4];
        for (int crumb = 1; crumb <= 3; crumb++) {
            int yes = 0;
            int no = 0;
            for (int move : movesOf(i)) {
                if (would(i, move, spring, crumb)) {
                    yes++;
                } else {
                    no++;
                }
            }
            apart[crumb] = Math.abs(yes - no);
        }
        int best = 1;
        best = apart[2] < apart[best] ? 2 : best;
        return apart[3] < apart[best] ? 3 : best;
    }

    int safe(int i) {
        if (!isPerson(i)) {
            return NONE;
        }
        boolean[] free = new boolean[2];
        int[] length = new int[2];
        for (int way = 0; way < 2; way++) {
            City c = city.copy();
            c.people.get(i)[5] = way;
            length[way] = walkOf(c, c.people.get(i), way).size();
            free[way] = pass(c).where[i] == NONE;
        }
        if (free[0] && !free[1]) {
            return 0;
        }
        if (free[1] && !free[0]) {
            return 1;
        }
        return length[1] < length[0] ? 1 : 0;
    }

    int passes(int k) {
        if (!isCorner(k)) {
            return NONE;
        }
        int bits = 0;
        for (int i = 0; i < city.people.size(); i++) {
            int[] who = city.people.get(i);
            bits |= walkOf(city, who, who[5]).contains(k) ? 1 << i : 0;
        }
        return bits;
    }

    int walk(int i) {
        return isPerson(i) ? walkOf(city, city.people.get(i), city.people.get(i)[5]).size() : NONE;
    }

    int game(int i, int k, int x, int y, int what) {
        if (!isPerson(i) || !isCorner(k) || x < 0 || x > 3 || y < 0 || y > 1 || what < 0 || what > 1) {
            return HIDDEN;
        }
        City c = city.copy();
        c.corners.get(k)[0] = x;
        c.people.get(i)[5] = y;
        int length = walkOf(c, c.people.get(i), y).size();
        int where = pass(c).where[i];
        return what == 0 ? (where == k ? 6 : 0) - (x > 0 ? 2 : 0) : (where != NONE ? -6 : 0) - length;
    }

    int rests(int i, int k, int nth) {
        if (!isPerson(i) || !isCorner(k) || nth < NONE) {
            return NONE;
        }
        List<Integer> out = new ArrayList<>();
        for (int x = 0; x < 4; x++) {
            for (int y = 0; y < 2; y++) {
                boolean rest = true;
                for (int z = 0; z < 4; z++) {
                    rest &= game(i, k, z, y, 0) <= game(i, k, x, y, 0);
                }
                for (int z = 0; z < 2; z++) {
                    rest &= game(i, k, x, z, 1) <= game(i, k, x, y, 1);
                }
                if (rest) {
                    out.add(10 * x + y);
                }
            }
        }
        return nth == NONE ? out.size() : nth < out.size() ? out.get(nth) : NONE;
    }

    int odds(int i, int chance) {
        if (!isPerson(i) || chance < 0 || chance > 100) {
            return NONE;
        }
        City ahead = city.copy();
        while (ahead.people.size() > i) {
            ahead.people.remove(i);
        }
        boolean[] unset = pass(ahead).unset;
        City c = city.copy();
        int[] who = c.people.get(i);
        return (int) parts(c, who, walkOf(c, who, who[5]), 0, 1000000000L, chance, unset);
    }

    private long parts(City c, int[] who, List<Integer> walk, int from, long part, int chance, boolean[] unset) {
        if (from == walk.size()) {
            return 0;
        }
        int k = walk.get(from);
        int[] trap = c.corners.get(k);
        if (unset[k] || trap[1] == 0 || trap[0] == 0 || pull(c, who, who[0], who[1], trap[0], trap[1]) < c.takes) {
            return parts(c, who, walk, from + 1, part, chance, unset);
        }
        long fails = part * chance / 100;
        long works = part - fails;
        boolean cane = who[6] >= c.old && c.constable != k;
        return parts(c, who, walk, from + 1, fails, chance, unset)
                + (cane ? parts(c, who, walk, from + 1, works, chance, unset) : works);
    }

    int lasts(int k) {
        if (!isCorner(k)) {
            return NONE;
        }
        City c = city.copy();
        for (int days = 0; days <= 60; days++) {
            if (c.corners.get(k)[1] == 0) {
                return days;
            }
            pass(c);
        }
        return NONE;
    }

    int yearly(int i) {
        if (!isPerson(i)) {
            return NONE;
        }
        City c = city.copy();
        int times = 0;
        for (int days = 0; days < 30; days++) {
            times += pass(c).taken >> i & 1;
        }
        return times;
    }

    int all(int what) {
        if (city == null || what < 0 || what > 10) {
            return NONE;
        }
        switch (what) {
            case 0:
                return highest(city.corners.size(), k -> Integer.bitCount(passes(k)));
            case 1:
                return highest(city.corners.size(), k -> city.corners.get(k)[1]);
            case 2:
                return highest(city.people.size(), i -> city.people.get(i)[2]);
            case 3:
                return highest(city.people.size(), i -> city.people.get(i)[1]);
            case 4:
                return highest(city.people.size(), i -> city.people.get(i)[6]);
            case 5:
                return bits(city.people.size(), i -> {
                    int[] who = city.people.get(i);
                    for (int k : walkOf(city, who, who[5])) {
                        if (city.corners.get(k)[0] == who[0]) {
                            return 0;
                        }
                    }
                    return 1;
                });
            case 6:
                return bits(city.people.size(), i -> city.people.get(i)[6] >= city.old ? 1 : 0);
            case 7:
                return bits(city.corners.size(), k -> city.corners.get(k)[0] == 0 ? 1 : 0);
            case 8:
                return now().taken;
            case 9:
                return now().canes;
            default:
                return (int) city.corners.stream().mapToInt(c -> c[0]).filter(c -> c > 0).distinct().count();
        }
    }

    private static int highest(int n, IntUnaryOperator f) {
        int best = 0;
        for (int i = n - 1; i >= 0; i--) {
            best = f.applyAsInt(i) >= f.applyAsInt(best) ? i : best;
        }
        for (int i = 0; i < n; i++) {
            if (f.applyAsInt(i) == f.applyAsInt(best)) {
                return i;
            }
        }
        return best;
    }

    private static int bits(int n, IntUnaryOperator f) {
        int bits = 0;
        for (int i = 0; i < n; i++) {
            bits += f.applyAsInt(i) << i;
        }
        return bits;
    }

    int kinds(int motive) {
        return city == null || motive < 1 || motive > 3 ? NONE
                : bits(city.people.size(), i -> city.people.get(i)[0] == motive ? 1 : 0);
    }

    int needs(int i, int k) {
        if (!isPerson(i) || !isCorner(k)) {
            return NONE;
        }
        int[] who = city.people.get(i);
        for (int spring = 0; spring <= 9; spring++) {
            if (pull(city, who, who[0], who[1], city.corners.get(k)[0], spring) >= city.takes) {
                return spring;
            }
        }
        return NONE;
    }

    int shares(int k, int c) {
        if (!isCorner(k) || c < 0 || c > 999) {
            return NONE;
        }
        int sum = city.corners.stream().mapToInt(x -> x[1]).sum();
        return sum == 0 ? 0 : c * city.corners.get(k)[1] / sum;
    }

    int image() {
        if (city == null) {
            return NONE;
        }
        image = city.copy();
        return city.day;
    }

    int back() {
        if (image == null) {
            return NONE;
        }
        city = image.copy();
        acts.clear();
        return city.day;
    }

    int count(int what) {
        switch (what) {
            case 0:
                return city == null ? 0 : city.people.size();
            case 1:
                return city == null ? 0 : city.corners.size();
            case 2:
                return laws.size();
            case 3:
                return plans.size();
            case 4:
                return tape.length();
            case 5:
                return held;
            case 6:
                return city == null ? 0 : city.day;
            case 7:
                return city == null ? 0 : city.people.stream().mapToInt(w -> w[6]).sum();
            case 8:
                return city == null ? NONE : city.constable;
            case 9:
                return dogs;
            case 10:
                return sightings.size();
            case 11:
                return city == null ? 0 : city.log.size();
            case 12:
                return acts.size();
            default:
                return HIDDEN;
        }
    }
}
