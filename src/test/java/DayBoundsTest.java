/** The boundary cases of promises 6 to 19, 22 and 41 to 43, sentence by sentence: days, hands, years, undoing, images. */
public final class DayBoundsTest {
    private static final int MIN = Integer.MIN_VALUE;
    private static final int MAX = Integer.MAX_VALUE;
    /** One who is taken at the second of two corners by any crumb, and never old by himself. */
    private static final String EVER = "so9;c;ck1s9;pw0";

    public static void main(String[] args) {
        rules();
        corners();
        people();
        laws();
        dogs();
        days();
        traps();
        pullIsEnough();
        oldOnes();
        constableAndCane();
        mostTimesAndWary();
        mostCoins();
        crumbs();
        springs();
        constable();
        turning();
        giving();
        years();
        yearsDraw();
        yearsEnd();
        undoing();
        fortyActs();
        logs();
        sixtyRows();
        performing();
        images();
        counts();
        Check.close();
    }

    private static void rules() {
        Check.bound(6, "NONE: no CITY");
        for (int what = 0; what < 3; what++) {
            Check.same("rule(" + what + ")", new TrapCorner().rule(what), -1);
        }
        Check.bound(6, "NONE: no such what");
        TrapCorner x = Check.city("st9c7o4;c;c;p");
        for (int what : new int[] {-1, 3, MIN, MAX}) {
            Check.same("rule(" + what + ")", x.rule(what), -1);
        }
        Check.bound(6, "COINS now");
        x.crumb(0, 1);
        Check.same("rule(1)", x.rule(1), 5);
        Check.same("rule(0)", x.rule(0), 9);
        Check.same("rule(2)", x.rule(2), 4);
    }

    private static void corners() {
        Check.bound(7, "NONE: no such CORNER");
        String text = "p;ck1s1";
        for (int n = 2; n <= 5; n++) {
            text += ";ck" + (n - 1) % 4 + "s" + n;
            TrapCorner x = Check.city(text);
            Check.same("corner(" + (n - 1) + ", 0)", x.corner(n - 1, 0), (n - 1) % 4);
            Check.same("corner(" + (n - 1) + ", 1)", x.corner(n - 1, 1), n);
            Check.same("corner(" + n + ", 1)", x.corner(n, 1), -1);
            Check.same("corner(-1, 1)", x.corner(-1, 1), -1);
        }
        TrapCorner x = Check.city(text);
        for (int c : new int[] {5, 6, MIN, MAX}) {
            Check.same("corner(" + c + ", 0)", x.corner(c, 0), -1);
        }
        Check.same("corner(0, 0) without a city", new TrapCorner().corner(0, 0), -1);
        Check.bound(7, "NONE: no such what");
        for (int what : new int[] {-1, 2, MIN, MAX}) {
            Check.same("corner(0, " + what + ")", x.corner(0, what), -1);
        }
    }

    private static void people() {
        Check.bound(8, "NoSuchElementException: no such one");
        String text = "c;c";
        for (int n = 1; n <= 6; n++) {
            text += ";pg" + n;
            TrapCorner x = Check.city(text);
            Check.same("person(" + (n - 1) + ", 1)", x.person(n - 1, 1), n);
            Check.noSuchElement(x, n, 1);
            Check.noSuchElement(x, -1, 1);
        }
        TrapCorner x = Check.city(text);
        for (int i : new int[] {6, 7, MIN, MAX}) {
            Check.noSuchElement(x, i, 0);
        }
        for (int what = 0; what < 7; what++) {
            Check.noSuchElement(new TrapCorner(), 0, what);
        }
        Check.bound(8, "NoSuchElementException: no such what");
        for (int what : new int[] {-1, 7, MIN, MAX}) {
            Check.noSuchElement(x, 0, what);
            Check.noSuchElement(x, 5, what);
        }
        Check.bound(8, "as now");
        TrapCorner y = Check.city(EVER, "y:40");
        y.day();
        y.about(0);
        int[] now = {1, 4, 1, 0, 1, 1, 1};
        for (int what = 0; what < 7; what++) {
            Check.same("person(0, " + what + ")", y.person(0, what), now[what]);
        }
    }

    private static void laws() {
        Check.bound(9, "False: no such one");
        TrapCorner x = Check.city("c;c;p");
        Check.same("law(0) of none", x.law(0), false);
        for (int n = 0; n < 4; n++) {
            Check.tell(x, 1, "y:" + (n + 1));
            Check.same("law(" + n + ")", x.law(n), true);
            Check.same("law(" + (n + 1) + ")", x.law(n + 1), false);
            Check.same("law(-2)", x.law(-2), false);
            Check.same("count(5)", x.count(5), n);
            Check.same("pulled(0, 0)", x.pulled(0, 0), n + 1);
        }
        Check.same("law of MIN", x.law(MIN), false);
        Check.same("law of MAX", x.law(MAX), false);
        Check.same("law(4)", x.law(4), false);
        Check.bound(9, "NONE: none");
        Check.same("law(NONE)", x.law(-1), true);
        Check.same("count(5)", x.count(5), -1);
        Check.same("pulled(0, 0)", x.pulled(0, 0), 3);
        Check.same("law(NONE) of none", new TrapCorner().law(-1), true);
        Check.bound(9, "the one that holds may be told again");
        Check.same("law(2)", x.law(2), true);
        Check.same("law(2)", x.law(2), true);
        Check.same("law(NONE)", x.law(-1), true);
        Check.same("law(NONE)", x.law(-1), true);
    }

    private static void dogs() {
        Check.bound(10, "DOGS 2 at first");
        Check.same("count(9)", new TrapCorner().count(9), 2);
        Check.bound(10, "0 .. 9; False: out of bounds");
        TrapCorner x = new TrapCorner();
        for (int v : new int[] {-1, 10, 100, MIN, MAX}) {
            Check.same("dogs(" + v + ")", x.dogs(v), false);
            Check.same("count(9)", x.count(9), 2);
        }
        Check.same("dogs(0)", x.dogs(0), true);
        Check.same("count(9)", x.count(9), 0);
        Check.same("dogs(9)", x.dogs(9), true);
        Check.same("count(9)", x.count(9), 9);
        Check.bound(10, "False: it is so");
        Check.same("dogs(2) at first", new TrapCorner().dogs(2), false);
        for (int v = 0; v < 9; v++) {
            Check.same("dogs(" + v + ")", x.dogs(v), true);
            Check.same("dogs(" + v + ") again", x.dogs(v), false);
            Check.same("count(9)", x.count(9), v);
        }
    }

    private static void days() {
        Check.bound(11, "NONE: no CITY");
        Check.same("day()", new TrapCorner().day(), -1);
        Check.bound(11, "DAY 0 at first, one later behind all");
        TrapCorner x = Check.city("c;c;p");
        Check.same("count(6)", x.count(6), 0);
        Check.same("day() on which nobody is taken", x.day(), 0);
        Check.same("count(6)", x.count(6), 1);
        Check.bound(11, "the DAY is 999 at most: NONE beyond");
        TrapCorner y = lateBy(998);
        Check.same("day() on 998", y.day(), 0);
        Check.same("count(6)", y.count(6), 999);
        Check.same("day() on 999", y.day(), -1);
        Check.same("count(6)", y.count(6), 999);
        Check.same("count(11)", y.count(11), 60);
        Check.bound(11, "a DAY that is UNDONE can go by again");
        Check.same("undo()", y.undo(), 39);
        Check.same("day() on 998", y.day(), 0);
        Check.same("day() on 999", y.day(), -1);
        Check.bound(11, "how many were TAKEN: none, all six");
        Check.same("none", Check.city("c;c;p;p", "y:40").day(), 0);
        Check.same("as many as there are traps", Check.city("ck1;ck1;ck1;ck1;ck1;pa4b0;pa0b1;pa1b2;pa2b3;pa3b4;pa3b4", "y:40").day(), 5);
        Check.same("one of two corners each", Check.city("ck1;ck1;p;pa1b0;p;pa1b0", "y:40").day(), 2);
    }

    /** A city of two corners without crumbs, so many days on (of 999 at most). */
    private static TrapCorner lateBy(int days) {
        TrapCorner x = Check.city("cs0;cs0;p");
        int left = days;
        for (int i = 0; i < 40 && left > 0; i++) {
            int n = Math.min(30, left);
            x.years(n, i);
            left -= n;
        }
        Check.same("count(6)", x.count(6), days);
        return x;
    }

    private static void traps() {
        Check.bound(11, "a trap takes with a SPRING above 0 alone");
        Check.same("spring 0", Check.city("c;ck1s0;p", "y:40").day(), 0);
        Check.same("spring 1", Check.city("c;ck1s1;p", "y:40").day(), 1);
        TrapCorner x = Check.city("c;ck1s1;p", "y:40");
        x.day();
        Check.same("spring then", x.corner(1, 1), 0);
        Check.same("day() then", x.day(), 0);
        Check.same("spring then", x.corner(1, 1), 0);
        Check.bound(11, "a trap takes with a CRUMB alone");
        Check.same("crumb 0", Check.city("c;ck0s9;p", "y:40").day(), 0);
        for (int k = 1; k <= 3; k++) {
            Check.same("crumb " + k, Check.city("c;ck" + k + "s9;p", "y:40").day(), 1);
        }
        Check.bound(11, "his WALK: not the CORNER he comes from, but the one he goes to");
        Check.same("where he comes from", Check.city("ck1s9;c;p", "y:40").day(), 0);
        Check.same("where he goes to", Check.city("c;ck1s9;p", "y:40").day(), 1);
        Check.same("behind it", Check.city("c;c;ck1s9;p", "y:40").day(), 0);
        Check.bound(11, "the ring goes round behind the last CORNER and ahead of the first");
        Check.same("rising from 2 to 0", Check.city("ck1s9;c;c;pa2b0", "y:40").caught(0), 0);
        Check.same("rising from 1 to 0 by 2", Check.city("c;c;ck1s9;pa1b0", "y:40").caught(0), 2);
        Check.same("falling from 0 to 2", Check.city("c;c;ck1s9;pa0b2r1", "y:40").caught(0), 2);
        Check.same("falling from 0 to 1 by 4", Check.city("c;c;c;c;ck1s9;pa0b1r1", "y:40").caught(0), 4);
        Check.same("falling from 0 to 1, not by 0", Check.city("ck1s9;c;c;c;c;pa0b1r1", "y:40").caught(0), -1);
        Check.bound(11, "he goes no further: at the first trap that takes him");
        TrapCorner far = Check.city("c;ck1s9;ck1s9;ck1s9;pb3", "y:40");
        far.day();
        int[] springs = {5, 8, 9, 9};
        for (int c = 0; c < 4; c++) {
            Check.same("spring of " + c, far.corner(c, 1), springs[c]);
        }
        Check.bound(11, "a trap that took one is not set any more on this DAY");
        TrapCorner two = Check.city("so9;c;ck1s9;p;p", "y:40");
        Check.same("day()", two.day(), 1);
        Check.same("taken", two.log(0, 0), 1);
        Check.same("spring", two.corner(1, 1), 8);
        Check.bound(11, "all traps are set as a DAY begins");
        Check.same("day()", two.day(), 1);
        Check.same("spring", two.corner(1, 1), 7);
        Check.bound(11, "by numbers each goes: the lowest comes first");
        TrapCorner order = Check.city("c;ck2s9;pm1;pm2;pm2", "y:m*40");
        Check.same("caught(0)", order.caught(0), -1);
        Check.same("caught(1)", order.caught(1), 1);
        Check.same("caught(2)", order.caught(2), -1);
    }

    private static void pullIsEnough() {
        Check.bound(11, "PULL as much as TAKES one, or more");
        for (int t = 1; t <= 30; t++) {
            Check.same("pull " + t + " of " + t, Check.city("st" + t + ";c;ck1;p", "y:" + t).day(), 1);
            Check.same("pull " + (t - 1) + " of " + t, Check.city("st" + t + ";c;ck1;p", "y:" + (t - 1)).day(), 0);
            Check.same("pull " + (t + 1) + " of " + t, Check.city("st" + t + ";c;ck1;p", "y:" + (t + 1)).day(), 1);
        }
        Check.bound(11, "without a LAW: twice GREED if its CRUMB is his MOTIVE, and SPRING, less WARY");
        Check.same("8 and 2 less 2", Check.city("c;ck1s2;pg4w2").day(), 1);
        Check.same("8 and 1 less 2", Check.city("c;ck1s1;pg4w2").day(), 0);
        Check.same("6 and 3 less 2", Check.city("c;ck1s3;pg3w2").day(), 0);
        Check.same("8 and 2 less 3", Check.city("c;ck1s2;pg4w3").day(), 0);
        Check.same("9 less 1 by another crumb", Check.city("c;ck2s9;pg9w1").day(), 1);
        Check.same("9 less 2 by another crumb", Check.city("c;ck2s9;pg9w2").day(), 0);
        Check.bound(11, "each is pulled by himself, at each CORNER by itself");
        for (int a = 0; a < 3; a++) {
            for (int b = 0; b < 3; b++) {
                String corners = ";ck1s9;ck1s9;ck1s9";
                String one = ";pg9w0a" + (a + 2) % 3 + "b" + a;
                String other = ";pg0w9a" + (b + 2) % 3 + "b" + b;
                Check.same("the first alone, " + a + " and " + b, Check.city("s" + corners + one + other).all(8), 1);
                Check.same("the second alone, " + a + " and " + b, Check.city("s" + corners + other + one).all(8), 2);
            }
        }
        Check.bound(11, "all of a DAY is as that DAY began: a SPRING less, TIMES more, one more WARY come behind");
        // the second comes to another corner; what the first did there does not matter for him
        TrapCorner x = Check.city("st9;c;ck1s9;ck1s9;pb1;pa1b2", "y:s");
        Check.same("day()", x.day(), 2);
        Check.same("day() by springs of 8", x.day(), 0);
    }

    private static void oldOnes() {
        for (int o = 1; o <= 9; o++) {
            Check.bound(11, "an OLD one: TIMES as many as told (" + o + "), or more");
            TrapCorner x = Check.city("so" + o + ";c;ck1s9;p", "y:40");
            for (int i = 0; i < o; i++) {
                Check.same("not old by " + i, x.all(6), 0);
                Check.same("day()", x.day(), 1);
                x.renew(1);
            }
            Check.same("old by " + o, x.all(6), 1);
            Check.same("day()", x.day(), 0);
            Check.same("canes", x.log(0, 1), 1);
            x.constable(1);
            Check.same("day() with the constable", x.day(), 1);
            x.constable(0);
            Check.same("old by more", x.all(6), 1);
            Check.same("day()", x.day(), 0);
        }
    }

    private static void constableAndCane() {
        Check.bound(11, "a CANE: the trap is not set any more on this DAY, he goes on");
        TrapCorner x = Check.city("so1;c;ck1s9;ck1s9;pb2;pb1", "y:40");
        x.day();
        Check.same("day()", x.day(), 0);
        Check.same("canes", x.log(0, 1), 2);
        Check.same("taken: the second finds it sprung", x.log(0, 0), 0);
        Check.bound(11, "by a CANE nothing wears, nobody is one more WARY, no COIN comes");
        Check.same("spring of 1", x.corner(1, 1), 8);
        Check.same("spring of 2", x.corner(2, 1), 9);
        Check.same("wary", x.person(0, 2), 3);
        Check.same("times", x.person(0, 6), 1);
        Check.same("coins", x.rule(1), 21);
        Check.bound(11, "not where the CONSTABLE is: he is TAKEN there");
        x.constable(2);
        Check.same("caught(0)", x.caught(0), 2);
        Check.same("day()", x.day(), 1);
        Check.same("canes", x.log(0, 1), 1);
        Check.same("times", x.person(0, 6), 2);
        Check.bound(11, "the CONSTABLE elsewhere does not matter");
        x.constable(0);
        Check.same("caught(0)", x.caught(0), -1);
        Check.bound(11, "a CANE where PULL is not enough is not used");
        TrapCorner y = Check.city("so1;c;ck1s9;p", "y:n=0?40");
        y.day();
        y.day();
        Check.same("canes", y.log(0, 1), 0);
        TrapCorner w = Check.city("so1;c;ck1s9;ck2s9;pb2", "y:m*40");
        w.day();
        w.day();
        Check.same("canes: at his own crumb alone", w.log(0, 1), 1);
        Check.bound(11, "a CANE at a trap without a SPRING or a CRUMB is not used");
        TrapCorner z = Check.city("so1;c;ck1s1;p", "y:40");
        z.day();
        z.day();
        Check.same("canes without a spring", z.log(0, 1), 0);
        z.renew(1);
        Check.same("canes with a spring", z.all(9), 1);
        z.crumb(1, 0);
        Check.same("canes without a crumb", z.all(9), 0);
    }

    private static void mostTimesAndWary() {
        TrapCorner x = Check.city(EVER, "y:40");
        x.constable(1);
        int[] wary = new int[102];
        int[] times = new int[102];
        for (int i = 1; i <= 101; i++) {
            Check.same("day()", x.day(), 1);
            x.renew(1);
            wary[i] = x.person(0, 2);
            times[i] = x.person(0, 6);
        }
        Check.bound(11, "one more WARY, 9 at most");
        for (int i = 1; i <= 12; i++) {
            Check.same("wary on day " + i, wary[i], Math.min(9, i));
        }
        Check.bound(11, "TIMES one more, 99 at most");
        for (int i = 96; i <= 101; i++) {
            Check.same("times on day " + i, times[i], Math.min(99, i));
        }
        Check.same("count(7)", x.count(7), 99);
        Check.bound(11, "at their most he is TAKEN still");
        Check.same("log(0, 0)", x.log(0, 0), 1);
        Check.same("caught(0)", x.caught(0), 1);
        Check.bound(11, "one who was told as WARY as can be stays so");
        TrapCorner y = Check.city("so9;c;ck1s9;pw9", "y:40");
        y.day();
        Check.same("wary", y.person(0, 2), 9);
        Check.bound(11, "only who was TAKEN is one more WARY");
        TrapCorner z = Check.city("c;ck1s9;pw3;pw4", "y:40");
        z.day();
        Check.same("wary of the first", z.person(0, 2), 4);
        Check.same("wary of the second", z.person(1, 2), 4);
    }

    /** So many coins, of 99 and more. */
    private static void coins(TrapCorner x, int want) {
        for (int i = 0; i < 30 && x.rule(1) < want; i++) {
            x.give(Math.min(50, want - x.rule(1)));
        }
        Check.same("coins", x.rule(1), want);
    }

    private static void mostCoins() {
        Check.bound(11, "a COIN more, 999 at most");
        TrapCorner x = Check.city("so9c99;ck1s9;ck1s9;p;pa1b0", "y:40");
        coins(x, 996);
        Check.same("day()", x.day(), 2);
        Check.same("coins", x.rule(1), 998);
        Check.same("day()", x.day(), 2);
        Check.same("coins", x.rule(1), 999);
        Check.same("log(0, 2)", x.log(0, 2), 999);
        Check.same("day()", x.day(), 2);
        Check.same("coins", x.rule(1), 999);
    }

    private static void crumbs() {
        Check.bound(12, "NONE: no such CORNER");
        TrapCorner x = Check.city("ck1;c;p");
        for (int c : new int[] {-1, 2, 5, MIN, MAX}) {
            Check.same("crumb(" + c + ", 2)", x.crumb(c, 2), -1);
        }
        Check.same("crumb(0, 1) without a city", new TrapCorner().crumb(0, 1), -1);
        Check.bound(12, "0 .. 3; NONE: out of bounds");
        for (int k : new int[] {-1, 4, 9, MIN, MAX}) {
            Check.same("crumb(0, " + k + ")", x.crumb(0, k), -1);
        }
        int[] laid = {0, 3, 2, 1};
        int was = 1;
        for (int k : laid) {
            Check.same("crumb(0, " + k + ")", x.crumb(0, k), was);
            Check.same("corner(0, 0)", x.corner(0, 0), k);
            was = k;
        }
        Check.bound(12, "another one; NONE: it is so");
        for (int k = 0; k <= 3; k++) {
            TrapCorner y = Check.city("ck" + k + ";c;p");
            Check.same("crumb(0, " + k + ")", y.crumb(0, k), -1);
            Check.same("coins", y.rule(1), 20);
            Check.same("count(12)", y.count(12), 0);
        }
        Check.bound(12, "2 COINS; NONE: too few COINS");
        for (int coins = 0; coins <= 4; coins++) {
            TrapCorner y = Check.city("sc" + coins + ";c;c;p");
            Check.same("crumb(1, 3) with " + coins, y.crumb(1, 3), coins < 2 ? -1 : 0);
            Check.same("coins then", y.rule(1), coins < 2 ? coins : coins - 2);
            Check.same("corner(1, 0)", y.corner(1, 0), coins < 2 ? 0 : 3);
        }
        Check.bound(12, "to take it away nothing");
        for (int coins = 0; coins <= 2; coins++) {
            TrapCorner y = Check.city("sc" + coins + ";ck3;c;p");
            Check.same("crumb(0, 0) with " + coins, y.crumb(0, 0), 3);
            Check.same("coins then", y.rule(1), coins);
        }
        Check.bound(12, "another instead of one that lies: 2 COINS, too");
        TrapCorner z = Check.city("sc1;ck3;c;p");
        Check.same("crumb(0, 2) with one", z.crumb(0, 2), -1);
        z.give(1);
        Check.same("crumb(0, 2) with two", z.crumb(0, 2), 3);
        Check.same("coins then", z.rule(1), 0);
    }

    private static void springs() {
        Check.bound(13, "NONE: no such CORNER");
        TrapCorner x = Check.city("c;c;p");
        for (int c : new int[] {-1, 2, 5, MIN, MAX}) {
            Check.same("renew(" + c + ")", x.renew(c), -1);
        }
        Check.same("renew(0) without a city", new TrapCorner().renew(0), -1);
        Check.bound(13, "one more, 9 at most; NONE: nine");
        for (int s = 0; s <= 9; s++) {
            TrapCorner y = Check.city("c;cs" + s + ";p");
            Check.same("renew(1) of " + s, y.renew(1), s < 9 ? s + 1 : -1);
            Check.same("corner(1, 1)", y.corner(1, 1), Math.min(9, s + 1));
            Check.same("coins", y.rule(1), s < 9 ? 19 : 20);
        }
        Check.bound(13, "a COIN; NONE: too few COINS");
        for (int coins = 0; coins <= 2; coins++) {
            TrapCorner y = Check.city("sc" + coins + ";cs3;c;p");
            Check.same("renew(0) with " + coins, y.renew(0), coins < 1 ? -1 : 4);
            Check.same("coins then", y.rule(1), Math.max(0, coins - 1));
            Check.same("corner(0, 1)", y.corner(0, 1), coins < 1 ? 3 : 4);
        }
    }

    private static void constable() {
        Check.bound(14, "none at first: NONE, nowhere");
        for (int c = 0; c < 2; c++) {
            TrapCorner x = Check.city("c;c;p");
            Check.same("count(8)", x.count(8), -1);
            Check.same("constable(" + c + ")", x.constable(c), -1);
            Check.same("count(8)", x.count(8), c);
        }
        Check.bound(14, "-2: no such CORNER");
        TrapCorner x = Check.city("c;c;p");
        for (int c : new int[] {-1, -2, 2, 5, MIN, MAX}) {
            Check.same("constable(" + c + ")", x.constable(c), -2);
        }
        Check.same("count(8)", x.count(8), -1);
        Check.same("constable(0) without a city", new TrapCorner().constable(0), -2);
        Check.bound(14, "another one; -2: he is there");
        Check.same("constable(0)", x.constable(0), -1);
        Check.same("constable(0)", x.constable(0), -2);
        Check.same("constable(-1): he can't be taken away", x.constable(-1), -2);
        Check.same("constable(1)", x.constable(1), 0);
        Check.same("constable(1)", x.constable(1), -2);
        Check.same("constable(0)", x.constable(0), 1);
        Check.same("count(12)", x.count(12), 3);
        Check.bound(14, "he costs nothing");
        TrapCorner y = Check.city("sc0;c;c;p");
        Check.same("constable(1) with no coins", y.constable(1), -1);
        Check.same("coins", y.rule(1), 0);
    }

    private static void turning() {
        Check.bound(15, "NONE: no such one");
        TrapCorner x = Check.city("c;c;c;p;pr1");
        for (int i : new int[] {-1, 2, 6, MIN, MAX}) {
            Check.same("about(" + i + ")", x.about(i), -1);
        }
        Check.same("about(0) without a city", new TrapCorner().about(0), -1);
        Check.bound(15, "his WAY then: 0 to 1, 1 to 0");
        for (int i = 0; i < 4; i++) {
            Check.same("about(0)", x.about(0), 1 - i % 2);
            Check.same("about(1)", x.about(1), i % 2);
        }
        Check.same("count(12)", x.count(12), 8);
        Check.bound(15, "the last one of six");
        Check.same("about(5)", Check.city("c;c;p;p;p;p;p;p").about(5), 1);
    }

    private static void giving() {
        Check.bound(16, "NONE: no CITY");
        Check.same("give(1)", new TrapCorner().give(1), -1);
        Check.bound(16, "1 .. 50; NONE: out of bounds");
        TrapCorner x = Check.city("sc0;c;c;p");
        for (int n : new int[] {0, -1, 51, 1000, MIN, MAX}) {
            Check.same("give(" + n + ")", x.give(n), -1);
            Check.same("coins", x.rule(1), 0);
        }
        Check.same("give(1)", x.give(1), 1);
        Check.same("give(50)", x.give(50), 51);
        Check.bound(16, "999 at most; NONE: above 999");
        coins(x, 949);
        Check.same("give(50) to 999", x.give(50), 999);
        Check.same("give(1)", x.give(1), -1);
        Check.same("give(50)", x.give(50), -1);
        Check.same("coins", x.rule(1), 999);
        x.undo();
        x.give(1);
        Check.same("give(50) to 1000", x.give(50), -1);
        Check.same("coins", x.rule(1), 950);
        Check.same("give(49)", x.give(49), 999);
    }

    private static void years() {
        Check.bound(17, "NONE: no CITY");
        Check.same("years(1, 1)", new TrapCorner().years(1, 1), -1);
        Check.bound(17, "n 1 .. 30; NONE: out of bounds");
        TrapCorner x = Check.city("c;c;p");
        for (int n : new int[] {0, -1, 31, 1000, MIN, MAX}) {
            Check.same("years(" + n + ", 1)", x.years(n, 1), -1);
            Check.same("count(6)", x.count(6), 0);
        }
        Check.same("years(1, 1)", x.years(1, 1), 1);
        Check.same("years(30, 1)", x.years(30, 1), 31);
        Check.bound(17, "each DAY with what is ahead of it is one ACT");
        TrapCorner y = Check.city("c;c;c;p;p;p");
        y.dogs(9);
        String[] was = new String[11];
        was[0] = Check.whole(y);
        TrapCorner z = Check.city("c;c;c;p;p;p");
        z.dogs(9);
        for (int n = 1; n <= 10; n++) {
            z.years(n, 3);
            was[n] = Check.whole(z);
            for (int i = 0; i < n; i++) {
                z.undo();
            }
        }
        y.years(10, 3);
        for (int n = 10; n > 0; n--) {
            String whole = Check.whole(y);
            Check.same("as behind " + n, whole.equals(was[n]), true);
            Check.same("undo()", y.undo(), n - 1);
        }
        Check.same("as at first", Check.whole(y).equals(was[0]), true);
        Check.bound(17, "each DAY of them has its row in the LOG");
        TrapCorner logged = Check.city("so9;ck1s9;ck1s9;p;pa1b0", "y:d=1|d=3?40");
        logged.years(4, 1);
        Check.same("count(11)", logged.count(11), 4);
        for (int i = 0; i < 4; i++) {
            Check.same("someone was taken on the day " + (3 - i), logged.log(i, 0) > 0, i % 2 == 0);
        }
        Check.same("coins", logged.log(0, 2), logged.rule(1));
        Check.bound(17, "the same seed brings the same, another one another");
        z.years(10, 3);
        Check.same("seed 3", Check.whole(z).equals(was[10]), true);
        y.years(10, 4);
        Check.same("seed 4", Check.whole(y).equals(was[10]), false);
    }

    private static long next(long x) {
        return x * 6364136223846793005L + 1442695040888963407L;
    }

    private static int drawn(long x, int j) {
        return (int) ((x >>> 33) % j);
    }

    private static void yearsDraw() {
        long[] seeds = {0, 1, -1, Long.MAX_VALUE, Long.MIN_VALUE, 1L << 33, -(1L << 33), 6364136223846793005L, 77};
        Check.bound(17, "x goes round in 64 bits, for any seed");
        for (long seed : seeds) {
            for (int dogs = 0; dogs <= 9; dogs += 3) {
                drawsAsTold(seed, dogs);
            }
        }
        Check.bound(17, "a draw of 10 below DOGS: as much is not below");
        // by seed 0 the third draw is 7: with 7 nobody turns, with 8 one does
        TrapCorner x = Check.city("c;c;c;c;p");
        x.dogs(7);
        x.years(1, 0);
        Check.same("way with 7", x.person(0, 5), 0);
        TrapCorner y = Check.city("c;c;c;c;p");
        y.dogs(8);
        y.years(1, 0);
        Check.same("way with 8", y.person(0, 5), 1);
        Check.bound(17, "DOGS 0: nobody turns, whatever is drawn");
        TrapCorner z = Check.city("c;c;p;p");
        z.dogs(0);
        z.years(30, 1);
        z.years(30, 2);
        Check.same("way of 0", z.person(0, 5), 0);
        Check.same("way of 1", z.person(1, 5), 0);
        Check.bound(17, "that CRUMB lies there for nothing, also with no COINS and if it lay there");
        TrapCorner v = Check.city("sc0;cs0;cs0;p");
        Check.same("years(30, 9)", v.years(30, 9), 30);
        Check.same("coins", v.rule(1), 0);
        Check.same("crumbs", v.all(7) != 3, true);
    }

    private static void drawsAsTold(long seed, int dogs) {
        TrapCorner x = Check.city("cs0;cs0;cs0;p;p;p;pr1;p");
        x.dogs(dogs);
        Check.same("years(20, " + seed + ")", x.years(20, seed), 20);
        long s = seed;
        int[] crumbs = new int[3];
        int[] ways = {0, 0, 0, 1, 0};
        for (int i = 0; i < 20; i++) {
            s = next(s);
            int corner = drawn(s, 3);
            s = next(s);
            crumbs[corner] = drawn(s, 4);
            s = next(s);
            if (drawn(s, 10) < dogs) {
                s = next(s);
                ways[drawn(s, 5)] ^= 1;
            }
        }
        for (int c = 0; c < 3; c++) {
            Check.same("crumb of " + c + " by seed " + seed, x.corner(c, 0), crumbs[c]);
        }
        for (int i = 0; i < 5; i++) {
            Check.same("way of " + i + " by seed " + seed, x.person(i, 5), ways[i]);
        }
    }

    private static void yearsEnd() {
        Check.bound(17, "NONE: beyond 999, and no DAY of them goes by");
        TrapCorner x = lateBy(970);
        Check.same("years(30, 1) on 970", x.years(30, 1), -1);
        Check.same("count(6)", x.count(6), 970);
        Check.same("years(29, 1) on 970", x.years(29, 1), 999);
        Check.same("years(1, 1) on 999", x.years(1, 1), -1);
        Check.same("count(6)", x.count(6), 999);
        TrapCorner y = lateBy(998);
        Check.same("years(2, 1) on 998", y.years(2, 1), -1);
        Check.same("years(1, 1) on 998", y.years(1, 1), 999);
        TrapCorner z = lateBy(969);
        Check.same("years(30, 1) on 969", z.years(30, 1), 999);
    }

    private static void undoing() {
        Check.bound(18, "NONE: none");
        Check.same("undo() of a new object", new TrapCorner().undo(), -1);
        Check.same("undo() in a new city", Check.city("c;c;p").undo(), -1);
        Check.bound(18, "how many still can be");
        TrapCorner x = Check.city("c;c;p");
        x.give(1);
        x.about(0);
        Check.same("undo()", x.undo(), 1);
        Check.same("undo()", x.undo(), 0);
        Check.same("undo()", x.undo(), -1);
        Check.same("undo()", x.undo(), -1);
        Check.bound(18, "a call that was refused is no ACT");
        x.crumb(0, 0);
        x.renew(9);
        x.constable(-1);
        x.about(1);
        x.give(0);
        x.years(0, 1);
        Check.same("undo()", x.undo(), -1);
        Check.bound(18, "LAWS, DOGS, SEEN, an IMAGE are no ACTS");
        x.law(-1);
        x.dogs(5);
        x.seen(0, 1, 1, true);
        x.image();
        Check.tell(x, 1, "y:1");
        Check.tell(x, 2, "d");
        Check.same("undo()", x.undo(), -1);
        Check.same("count(10)", x.count(10), 1);
        Check.bound(18, "what is told apart is no ACT");
        x.run(0, 0);
        x.baits(1, 0);
        x.lasts(0);
        x.yearly(0);
        Check.same("undo()", x.undo(), -1);
        Check.bound(18, "an ACT behind an UNDONE one is the latest then");
        x.give(1);
        x.give(2);
        x.undo();
        x.give(4);
        Check.same("coins", x.rule(1), 25);
        Check.same("undo()", x.undo(), 1);
        Check.same("coins", x.rule(1), 21);
        Check.same("undo()", x.undo(), 0);
        Check.same("coins", x.rule(1), 20);
    }

    private static void fortyActs() {
        Check.bound(18, "the latest 40 can be UNDONE one by one");
        for (int acts = 39; acts <= 42; acts++) {
            TrapCorner x = Check.city("sc0;c;c;p");
            for (int i = 0; i < acts; i++) {
                x.give(1);
            }
            int can = Math.min(40, acts);
            Check.same("count(12) behind " + acts, x.count(12), can);
            for (int i = can - 1; i >= 0; i--) {
                Check.same("undo()", x.undo(), i);
            }
            Check.same("undo()", x.undo(), -1);
            Check.same("coins", x.rule(1), acts - can);
        }
        Check.bound(18, "the 40 go round: undone and done again");
        TrapCorner x = Check.city("sc0;c;c;p");
        for (int i = 0; i < 100; i++) {
            x.give(1);
        }
        for (int i = 0; i < 25; i++) {
            x.undo();
        }
        for (int i = 0; i < 30; i++) {
            x.give(2);
        }
        Check.same("count(12)", x.count(12), 40);
        for (int i = 39; i >= 0; i--) {
            Check.same("undo()", x.undo(), i);
            Check.same("coins", x.rule(1), i >= 10 ? 75 + 2 * (i - 10) : 65 + i);
        }
        Check.bound(18, "DAYS of YEARS are ACTS of the 40, too");
        TrapCorner y = Check.city("cs0;cs0;p");
        y.years(30, 1);
        y.years(30, 2);
        Check.same("count(12)", y.count(12), 40);
        for (int i = 0; i < 40; i++) {
            y.undo();
        }
        Check.same("undo()", y.undo(), -1);
        Check.same("count(6)", y.count(6), 20);
    }

    private static void logs() {
        Check.bound(19, "NONE: no such row");
        TrapCorner x = Check.city(EVER, "y:40");
        Check.same("log(0, 0) of no day", x.log(0, 0), -1);
        Check.same("log(0, 0) of a new object", new TrapCorner().log(0, 0), -1);
        for (int days = 1; days <= 3; days++) {
            x.day();
            Check.same("log(" + (days - 1) + ", 2)", x.log(days - 1, 2), 21);
            Check.same("log(0, 2)", x.log(0, 2), 20 + days);
            for (int i : new int[] {days, -1, MIN, MAX}) {
                Check.same("log(" + i + ", 0)", x.log(i, 0), -1);
            }
        }
        Check.bound(19, "NONE: no such what");
        for (int what : new int[] {-1, 3, MIN, MAX}) {
            Check.same("log(0, " + what + ")", x.log(0, what), -1);
        }
        Check.bound(19, "COINS then, behind all of that DAY");
        x.give(5);
        Check.same("log(0, 2)", x.log(0, 2), 23);
        x.crumb(0, 2);
        Check.same("log(0, 2)", x.log(0, 2), 23);
        Check.bound(19, "who was TAKEN: nobody, the last of six, all bits");
        TrapCorner y = Check.city("ck3s9;ck3s9;c;c;c;pm1;pm1;pm1;pm1;pm3a4b0;pm3b1", "y:m*40");
        y.day();
        Check.same("log(0, 0)", y.log(0, 0), 48);
        y.crumb(0, 0);
        y.crumb(1, 0);
        y.day();
        Check.same("log(0, 0)", y.log(0, 0), 0);
        Check.same("log(1, 0)", y.log(1, 0), 48);
        Check.bound(19, "how many CANES: at every CORNER");
        TrapCorner z = Check.city("so1;ck1s9;ck1s9;ck1s9;ck1s9;ck1s9;pa0b4;pa4b0", "y:40");
        z.day();
        z.day();
        Check.same("log(0, 1)", z.log(0, 1), 5);
        Check.same("log(0, 0)", z.log(0, 0), 0);
        Check.same("log(1, 1)", z.log(1, 1), 0);
        z.constable(4);
        z.day();
        Check.bound(19, "the latest (i 0), the one ahead of it (1) ..");
        int[][] rows = {{1, 4, 23}, {0, 5, 22}, {3, 0, 22}};
        for (int i = 0; i < 3; i++) {
            for (int what = 0; what < 3; what++) {
                Check.same("log(" + i + ", " + what + ")", z.log(i, what), rows[i][what]);
            }
        }
    }

    private static void sixtyRows() {
        Check.bound(19, "the latest 60");
        TrapCorner x = Check.city("sc0;c;c;p");
        for (int i = 1; i <= 62; i++) {
            x.give(1);
            x.day();
            Check.same("count(11)", x.count(11), Math.min(60, i));
            Check.same("log(59, 2) on day " + i, x.log(59, 2), i < 60 ? -1 : i - 59);
            Check.same("log(60, 2) on day " + i, x.log(60, 2), -1);
        }
        for (int i = 0; i < 60; i++) {
            Check.same("log(" + i + ", 2)", x.log(i, 2), 62 - i);
        }
        Check.bound(19, "an UNDONE DAY takes its row away and brings back the one that was the oldest");
        x.undo();
        Check.same("log(0, 2)", x.log(0, 2), 61);
        Check.same("log(59, 2)", x.log(59, 2), 2);
        x.undo();
        x.undo();
        Check.same("log(0, 2)", x.log(0, 2), 60);
        Check.same("log(59, 2)", x.log(59, 2), 1);
        Check.same("count(11)", x.count(11), 60);
        x.undo();
        x.undo();
        Check.same("count(11)", x.count(11), 59);
        Check.same("log(58, 2)", x.log(58, 2), 1);
        Check.same("log(59, 2)", x.log(59, 2), -1);
        Check.bound(19, "40 UNDONE DAYS bring back 40 rows");
        TrapCorner y = Check.city("sc0;c;c;p");
        for (int i = 1; i <= 70; i++) {
            y.give(1);
            y.day();
        }
        y.years(30, 1);
        y.years(10, 2);
        Check.same("log(59, 2)", y.log(59, 2), 51);
        for (int i = 0; i < 40; i++) {
            y.undo();
        }
        for (int i = 0; i < 60; i++) {
            Check.same("log(" + i + ", 2)", y.log(i, 2), 70 - i);
        }
        Check.same("log(60, 2)", y.log(60, 2), -1);
    }

    private static void performing() {
        Check.bound(22, "NONE: no such PLAN");
        TrapCorner x = Check.city("c;c;p");
        Check.same("perform(0) of none", x.perform(0), -1);
        Check.tell(x, 2, "r0");
        for (int plan : new int[] {-1, 1, 4, MIN, MAX}) {
            Check.same("perform(" + plan + ")", x.perform(plan), -1);
        }
        Check.same("count(12)", x.count(12), 0);
        Check.bound(22, "NONE: no CITY");
        TrapCorner y = new TrapCorner();
        Check.tell(y, 2, "r0");
        Check.same("perform(0)", y.perform(0), -1);
        Check.bound(22, "how many STEPS were done: none, some, all");
        Check.tell(x, 2, "r1;d");
        Check.tell(x, 2, "d;r0;k99;d");
        Check.tell(x, 2, "r0;r0;r0;r0;r0;r0;r0;r0;r0;r0;r0;r0;r0;r0;r0;d");
        Check.same("perform(1)", x.perform(1), 0);
        Check.same("count(12)", x.count(12), 0);
        Check.same("perform(2)", x.perform(2), 2);
        Check.same("count(12)", x.count(12), 2);
        Check.same("count(6)", x.count(6), 1);
        Check.same("perform(3)", x.perform(3), 16);
        Check.same("count(12)", x.count(12), 18);
        Check.bound(22, "its STEPS are ACTS: the 40 latest can be UNDONE");
        x.perform(3);
        x.perform(3);
        Check.same("count(12)", x.count(12), 40);
        Check.same("undo()", x.undo(), 39);
        Check.same("count(6)", x.count(6), 3);
        Check.bound(22, "a STEP can't be where the call by hand is refused");
        String[][] cant = {{"c;c;p", "k20"}, {"c;c;p", "k04"}, {"ck2;c;p", "k02"}, {"c;c;p", "k00"}, {"sc1;c;c;p", "k01"},
            {"c;c;p", "s2"}, {"cs9;c;p", "s0"}, {"sc0;c;c;p", "s0"}, {"c;c;p", "r1"}};
        for (String[] pair : cant) {
            TrapCorner z = Check.city(pair[0]);
            Check.tell(z, 2, pair[1]);
            Check.same(pair[1] + " in " + pair[0], z.perform(0), 0);
            Check.same("count(12)", z.count(12), 0);
        }
        String[][] can = {{"c;c;p", "k13"}, {"sc0;ck2;c;p", "k00"}, {"sc2;c;c;p", "k01"}, {"sc1;cs8;c;p", "s0"}, {"c;c;p", "r0"},
            {"sc0;c;c;p", "d"}};
        for (String[] pair : can) {
            TrapCorner z = Check.city(pair[0]);
            Check.tell(z, 2, pair[1]);
            Check.same(pair[1] + " in " + pair[0], z.perform(0), 1);
            Check.same("count(12)", z.count(12), 1);
        }
        Check.bound(22, "a DAY beyond 999 can't be");
        TrapCorner late = lateBy(998);
        Check.tell(late, 2, "d;d");
        Check.same("perform(0) on 998", late.perform(0), 1);
        Check.same("perform(0) on 999", late.perform(0), 0);
        Check.same("count(6)", late.count(6), 999);
    }

    private static void images() {
        Check.bound(41, "NONE: no CITY");
        Check.same("image()", new TrapCorner().image(), -1);
        Check.bound(42, "NONE: no IMAGE of this CITY");
        Check.same("back() of a new object", new TrapCorner().back(), -1);
        TrapCorner x = Check.city("c;c;p");
        Check.same("back() without an image", x.back(), -1);
        Check.same("image()", x.image(), 0);
        Check.same("back()", x.back(), 0);
        Check.tell(x, 0, "c;c;p");
        Check.same("back() in another city", x.back(), -1);
        Check.bound(42, "a CITY that was refused leaves the IMAGE");
        x.image();
        Check.tell(x, 0, "c;c");
        Check.same("back()", x.back(), 0);
        Check.bound(41, "instead of the one ahead: the DAY");
        x.day();
        Check.same("image()", x.image(), 1);
        x.day();
        Check.same("back()", x.back(), 1);
        Check.same("count(6)", x.count(6), 1);
        Check.bound(42, "back as often as one likes");
        for (int i = 0; i < 3; i++) {
            x.years(5, i);
            Check.same("back()", x.back(), 1);
            Check.same("count(6)", x.count(6), 1);
        }
        Check.bound(42, "no ACT can be UNDONE then");
        x.give(1);
        x.back();
        Check.same("count(12)", x.count(12), 0);
        Check.same("undo()", x.undo(), -1);
        Check.bound(41, "an IMAGE is no ACT and leaves those that can be UNDONE");
        x.give(1);
        x.image();
        Check.same("count(12)", x.count(12), 1);
        Check.same("undo()", x.undo(), 0);
        Check.same("coins", x.rule(1), 20);
        Check.same("back(): what was undone is so again", x.back(), 1);
        Check.same("coins", x.rule(1), 21);
        Check.bound(42, "CORNERS, PEOPLE, the CONSTABLE, COINS, the DAY, the LOG are so again");
        TrapCorner y = Check.city(EVER, "y:40");
        y.image();
        y.day();
        y.crumb(0, 2);
        y.about(0);
        y.constable(1);
        y.back();
        int[] person = {1, 4, 0, 0, 1, 0, 0};
        for (int i = 0; i < 7; i++) {
            Check.same("person(0, " + i + ")", y.person(0, i), person[i]);
        }
        Check.same("corner(0, 0)", y.corner(0, 0), 0);
        Check.same("corner(1, 1)", y.corner(1, 1), 9);
        Check.same("count(8): nowhere", y.count(8), -1);
        Check.same("rule(1)", y.rule(1), 20);
        Check.same("count(6)", y.count(6), 0);
        Check.same("count(11)", y.count(11), 0);
        Check.bound(42, "SEEN, LAWS, which holds, PLANS, DOGS, the TAPE are not of it");
        y.seen(0, 5, 1, true);
        Check.tell(y, 1, "y:7");
        Check.tell(y, 2, "d");
        y.law(1);
        y.dogs(4);
        Check.put(y, "abc");
        y.back();
        int[][] kept = {{2, 2}, {3, 1}, {4, 3}, {5, 1}, {9, 4}, {10, 1}};
        for (int[] k : kept) {
            Check.same("count(" + k[0] + ")", y.count(k[0]), k[1]);
        }
        Check.bound(42, "the LOG of 60 is so again behind more than a hundred DAYS");
        TrapCorner z = Check.city("sc0;c;c;p");
        for (int i = 1; i <= 65; i++) {
            z.give(1);
            z.day();
        }
        z.image();
        for (int i = 0; i < 5; i++) {
            z.years(30, i);
        }
        Check.same("back()", z.back(), 65);
        for (int i = 0; i < 60; i++) {
            Check.same("log(" + i + ", 2)", z.log(i, 2), 65 - i);
        }
        Check.same("log(60, 2)", z.log(60, 2), -1);
        Check.bound(42, "from a DAY ahead of the IMAGE, too");
        TrapCorner v = Check.city("sc0;c;c;p");
        v.day();
        v.give(7);
        v.day();
        v.image();
        v.undo();
        v.undo();
        v.undo();
        v.give(1);
        v.day();
        Check.same("back()", v.back(), 2);
        Check.same("log(0, 2)", v.log(0, 2), 7);
        Check.same("log(1, 2)", v.log(1, 2), 0);
    }

    private static void counts() {
        Check.bound(43, "HIDDEN for others");
        TrapCorner x = Check.city(Check.HOME);
        for (int what : new int[] {-1, 13, 14, MIN, MAX}) {
            Check.same("count(" + what + ")", x.count(what), Check.HIDDEN);
            Check.same("count(" + what + ") of a new object", new TrapCorner().count(what), Check.HIDDEN);
        }
        Check.bound(43, "5 the LAW that holds, 8 where the CONSTABLE is: NONE");
        Check.same("count(5)", x.count(5), -1);
        Check.same("count(8)", x.count(8), -1);
        Check.tell(x, 1, "y:0");
        x.law(0);
        x.constable(0);
        Check.same("count(5)", x.count(5), 0);
        Check.same("count(8)", x.count(8), 0);
        Check.bound(43, "7 TIMES of all");
        TrapCorner y = Check.city("ck1s9;ck1s9;p;pa1b0;p", "y:40");
        Check.same("count(7)", y.count(7), 0);
        y.day();
        y.day();
        Check.same("count(7)", y.count(7), 4);
        Check.bound(43, "all at their most");
        TrapCorner z = Check.city("c;c;c;c;c;p;p;p;p;p;p");
        for (int i = 0; i < 4; i++) {
            Check.tell(z, 1, "y:1");
            Check.tell(z, 2, "d");
        }
        for (int i = 0; i < 10; i++) {
            z.seen(0, 1, 1, true);
        }
        z.law(3);
        z.constable(4);
        z.dogs(9);
        z.years(30, 1);
        z.years(30, 1);
        z.years(1, 1);
        for (int i = 0; i < 12; i++) {
            z.feed(-1, -1, -1, -1, -1);
        }
        int[] due = {6, 5, 4, 4, 240, 3, 61, 0, 4, 9, 10, 60, 40};
        for (int i = 0; i < due.length; i++) {
            Check.same("count(" + i + ")", z.count(i), due[i]);
        }
    }
}
