/** Promises 6 to 19, 22, 41, 42 and 43: what is, settings, acts, undoing, the log, plans done, images. */
public final class ActsTest {
    /** One old after being taken once, at the second of two corners. */
    private static final String CANE = "so1;c;ck1s9;pm1g9w0";

    public static void main(String[] args) {
        promise6rule();
        promise7corner();
        promise8person();
        promise9law();
        promise10dogs();
        promise11day();
        promise11traps();
        promise11caneAndConstable();
        promise11bounds();
        promise12crumb();
        promise13renew();
        promise14constable();
        promise15about();
        promise16give();
        promise17years();
        promise17dogsAndDraws();
        promise17end();
        promise18undo();
        promise18fortyActs();
        promise19log();
        promise22perform();
        promise41and42image();
        promise43count();
        Check.close();
    }

    private static void promise6rule() {
        TrapCorner x = Check.city("st9c7o4;c;c;p");
        Check.same("rule(0)", x.rule(0), 9);
        Check.same("rule(1)", x.rule(1), 7);
        Check.same("rule(2)", x.rule(2), 4);
        x.give(3);
        Check.same("rule(1) now", x.rule(1), 10);
        Check.same("rule(3)", x.rule(3), -1);
        Check.same("rule(-1)", x.rule(-1), -1);
        for (int wild : Check.WILD) {
            Check.same("rule(wild)", x.rule(wild), -1);
        }
        Check.same("rule(0) without a city", new TrapCorner().rule(0), -1);
    }

    private static void promise7corner() {
        TrapCorner x = Check.city(Check.HOME);
        int[][] corners = {{1, 5}, {2, 4}, {0, 9}};
        for (int c = 0; c < 3; c++) {
            Check.same("corner(c, 0)", x.corner(c, 0), corners[c][0]);
            Check.same("corner(c, 1)", x.corner(c, 1), corners[c][1]);
            Check.same("corner(c, 2)", x.corner(c, 2), -1);
            Check.same("corner(c, -1)", x.corner(c, -1), -1);
        }
        Check.same("corner(3, 0)", x.corner(3, 0), -1);
        Check.same("corner(-1, 0)", x.corner(-1, 0), -1);
        for (int wild : Check.WILD) {
            Check.same("corner(wild, 0)", x.corner(wild, 0), -1);
            Check.same("corner(0, wild)", x.corner(0, wild), -1);
        }
        x.crumb(2, 3);
        x.renew(0);
        Check.same("corner(2, 0) now", x.corner(2, 0), 3);
        Check.same("corner(0, 1) now", x.corner(0, 1), 6);
    }

    private static void promise8person() {
        TrapCorner x = Check.city("c;c;c;c;c;pm3g7w8a4b2r1;p");
        int[] told = {3, 7, 8, 4, 2, 1, 0};
        for (int i = 0; i < told.length; i++) {
            Check.same("person(0, " + i + ")", x.person(0, i), told[i]);
        }
        Check.noSuchElement(x, 2, 0);
        Check.noSuchElement(x, -1, 0);
        Check.noSuchElement(x, 0, 7);
        Check.noSuchElement(x, 0, -1);
        for (int wild : Check.WILD) {
            Check.noSuchElement(x, wild, 0);
            Check.noSuchElement(x, 0, wild);
        }
        Check.noSuchElement(new TrapCorner(), 0, 0);
        TrapCorner y = Check.city(CANE);
        y.day();
        y.about(0);
        int[] now = {1, 9, 1, 0, 1, 1, 1};
        for (int i = 0; i < now.length; i++) {
            Check.same("person(0, " + i + ") now", y.person(0, i), now[i]);
        }
    }

    private static void promise9law() {
        TrapCorner x = Check.city("ck1s5;c;pm1g4w2a1b0");
        Check.same("law(0) without laws", x.law(0), false);
        Check.same("law(NONE)", x.law(-1), true);
        Check.tell(x, 1, "y:31");
        Check.tell(x, 1, "y:32");
        Check.same("pulled by none", x.pulled(0, 0), 11);
        Check.same("law(1)", x.law(1), true);
        Check.same("count(5)", x.count(5), 1);
        Check.same("pulled by it", x.pulled(0, 0), 32);
        Check.same("law(1) again", x.law(1), true);
        Check.same("law(2)", x.law(2), false);
        Check.same("law(-2)", x.law(-2), false);
        for (int wild : Check.WILD) {
            Check.same("law(wild)", x.law(wild), false);
        }
        Check.same("count(5)", x.count(5), 1);
        Check.same("law(0)", x.law(0), true);
        Check.same("pulled by it", x.pulled(0, 0), 31);
        Check.same("law(NONE)", x.law(-1), true);
        Check.same("count(5)", x.count(5), -1);
        Check.same("pulled by none", x.pulled(0, 0), 11);
        Check.same("count(12): no act", x.count(12), 0);
    }

    private static void promise10dogs() {
        TrapCorner x = new TrapCorner();
        Check.same("dogs(2), as at first", x.dogs(2), false);
        Check.same("dogs(9)", x.dogs(9), true);
        Check.same("dogs(9) again", x.dogs(9), false);
        Check.same("dogs(10)", x.dogs(10), false);
        Check.same("dogs(-1)", x.dogs(-1), false);
        Check.same("dogs of MAX", x.dogs(Integer.MAX_VALUE), false);
        Check.same("dogs of MIN", x.dogs(Integer.MIN_VALUE), false);
        Check.same("count(9)", x.count(9), 9);
        Check.same("dogs(0)", x.dogs(0), true);
        Check.same("count(9)", x.count(9), 0);
    }

    private static void promise11day() {
        TrapCorner x = Check.city(Check.HOME);
        // the first comes by 2 and 0, where he is pulled by 11; the second by 1, by 9; the third finds it sprung
        Check.same("day()", x.day(), 2);
        int[][] people = {{3, 1}, {2, 1}, {0, 0}};
        for (int i = 0; i < 3; i++) {
            Check.same("wary of " + i, x.person(i, 2), people[i][0]);
            Check.same("times of " + i, x.person(i, 6), people[i][1]);
        }
        Check.same("spring of 0", x.corner(0, 1), 4);
        Check.same("spring of 1", x.corner(1, 1), 3);
        Check.same("spring of 2", x.corner(2, 1), 9);
        Check.same("coins", x.rule(1), 22);
        Check.same("the day", x.count(6), 1);
        // now by 9 and 7: only the first
        Check.same("day()", x.day(), 1);
        Check.same("spring of 0", x.corner(0, 1), 3);
        Check.same("spring of 1", x.corner(1, 1), 3);
        Check.same("coins", x.rule(1), 23);
        Check.same("the day", x.count(6), 2);
        Check.same("day() without a city", new TrapCorner().day(), -1);
    }

    private static void promise11traps() {
        // all traps are set anew each day; who comes second finds it sprung
        TrapCorner x = Check.city("so9;c;ck1s9;pg9;pg9", "y:40");
        for (int i = 1; i <= 3; i++) {
            Check.same("day()", x.day(), 1);
            Check.same("taken", x.log(0, 0), 1);
        }
        // the first to come goes no further: the second corner waits for the next one
        TrapCorner y = Check.city("c;ck1s5;ck1s5;pa0b2;pa1b2;pa0b2", "y:40");
        Check.same("day()", y.day(), 2);
        Check.same("taken", y.log(0, 0), 3);
        Check.same("spring of 1", y.corner(1, 1), 4);
        Check.same("spring of 2", y.corner(2, 1), 4);
        // no spring, no crumb, another crumb
        TrapCorner z = Check.city("ck1s0;ck0s9;ck2s9;pa2b0;pa0b1;pm3a1b2", "y:40");
        Check.same("day()", z.day(), 1);
        Check.same("taken", z.log(0, 0), 4);
        // as much as takes one is enough, one less is not
        Check.same("pull 12, takes 12", Check.city("st12;c;ck1s5;pg4w1").day(), 1);
        Check.same("pull 12, takes 13", Check.city("st13;c;ck1s5;pg4w1").day(), 0);
        // one is pulled and another is not, at the same corner
        Check.same("greed 0 and 9", Check.city("c;ck1s5;pg0;pg9").day(), 1);
        TrapCorner v = Check.city("c;ck1s5;pg0;pg9");
        Check.same("caught(0)", v.caught(0), -1);
        Check.same("caught(1)", v.caught(1), 1);
        // as many as there can be: each is taken where his walk ends
        TrapCorner six = Check.city("ck1;ck2;ck3;ck1;ck2;pm1a0b3;pm2a3b4;pm3a0b2;pm1a3b0;pm2a4b1;pm3a1b2", "y:m*40");
        Check.same("day() of six", six.day(), 5);
        Check.same("taken", six.log(0, 0), 31);
        int[] springs = {4, 4, 4, 4, 4};
        for (int c = 0; c < 5; c++) {
            Check.same("spring of " + c, six.corner(c, 1), springs[c]);
        }
        // the law asks for the day and the times as they are
        TrapCorner d = Check.city("so9;c;ck1s9;p", "y:d=1?40;y:n*9");
        int[] taken = {0, 1, 1, 1};
        for (int i = 0; i < 4; i++) {
            Check.same("day " + i, d.day(), taken[i]);
        }
    }

    private static void promise11caneAndConstable() {
        TrapCorner x = Check.city(CANE);
        Check.same("day()", x.day(), 1);
        Check.same("day() of an old one", x.day(), 0);
        Check.same("canes", x.log(0, 1), 1);
        Check.same("spring", x.corner(1, 1), 8);
        Check.same("coins", x.rule(1), 21);
        Check.same("wary", x.person(0, 2), 1);
        Check.same("times", x.person(0, 6), 1);
        x.constable(0);
        Check.same("day() with the constable elsewhere", x.day(), 0);
        x.constable(1);
        Check.same("day() with the constable there", x.day(), 1);
        Check.same("canes", x.log(0, 1), 0);
        Check.same("times", x.person(0, 6), 2);
        // a cane springs the trap for those behind, and he goes on to the next one
        TrapCorner y = Check.city("so1;c;ck1s9;ck1s9;pb2;pb1", "y:40");
        y.day();
        Check.same("taken at first", y.log(0, 0), 1);
        Check.same("day()", y.day(), 0);
        Check.same("canes", y.log(0, 1), 2);
        y.constable(2);
        Check.same("day()", y.day(), 1);
        Check.same("taken behind his cane", y.log(0, 0), 1);
        Check.same("canes", y.log(0, 1), 1);
        Check.same("spring of 1", y.corner(1, 1), 8);
        Check.same("spring of 2", y.corner(2, 1), 8);
    }

    private static void promise11bounds() {
        TrapCorner x = Check.city("sc90;c;ck1s9;pw0", "y:40");
        x.constable(1);
        for (int i = 0; i < 18; i++) {
            x.give(50);
        }
        x.give(9);
        for (int i = 1; i <= 101; i++) {
            x.day();
            if (i == 1) {
                Check.same("coins at their most", x.rule(1), 999);
            }
            x.renew(1);
            if (i == 8 || i == 9 || i == 10) {
                Check.same("wary", x.person(0, 2), Math.min(9, i));
            }
            if (i == 98 || i == 99 || i == 101) {
                Check.same("times", x.person(0, 6), Math.min(99, i));
            }
        }
        Check.same("yearly counts what is, not what is written", x.yearly(0), 9);
        Check.same("the day", x.count(6), 101);
    }

    private static void promise12crumb() {
        TrapCorner x = Check.city("sc5;ck2;c;p");
        Check.same("crumb(0, 1)", x.crumb(0, 1), 2);
        Check.same("coins", x.rule(1), 3);
        Check.same("corner(0, 0)", x.corner(0, 0), 1);
        Check.same("crumb(0, 1): it is so", x.crumb(0, 1), -1);
        Check.same("crumb(1, 3)", x.crumb(1, 3), 0);
        Check.same("coins", x.rule(1), 1);
        String before = Check.whole(x);
        Check.same("crumb(1, 2): too few coins", x.crumb(1, 2), -1);
        Check.same("crumb(2, 0)", x.crumb(2, 0), -1);
        Check.same("crumb(-1, 0)", x.crumb(-1, 0), -1);
        Check.same("crumb(0, 4)", x.crumb(0, 4), -1);
        Check.same("crumb(0, -1)", x.crumb(0, -1), -1);
        for (int wild : Check.WILD) {
            Check.same("crumb(wild, 0)", x.crumb(wild, 0), -1);
            Check.same("crumb(0, wild)", x.crumb(0, wild), -1);
        }
        Check.unchanged("what is refused", x, before);
        Check.same("crumb(1, 0): for nothing", x.crumb(1, 0), 3);
        Check.same("coins", x.rule(1), 1);
        Check.same("crumb(1, 0) again", x.crumb(1, 0), -1);
        TrapCorner y = Check.city("sc2;c;c;p");
        Check.same("crumb(0, 1) with two coins", y.crumb(0, 1), 0);
        Check.same("coins", y.rule(1), 0);
    }

    private static void promise13renew() {
        TrapCorner x = Check.city("sc2;cs7;cs0;p");
        Check.same("renew(0)", x.renew(0), 8);
        Check.same("coins", x.rule(1), 1);
        Check.same("renew(0)", x.renew(0), 9);
        Check.same("renew(1): too few coins", x.renew(1), -1);
        x.give(5);
        String before = Check.whole(x);
        Check.same("renew(0): nine", x.renew(0), -1);
        Check.same("renew(2)", x.renew(2), -1);
        Check.same("renew(-1)", x.renew(-1), -1);
        for (int wild : Check.WILD) {
            Check.same("renew(wild)", x.renew(wild), -1);
        }
        Check.unchanged("what is refused", x, before);
        Check.same("renew(1)", x.renew(1), 1);
        Check.same("coins", x.rule(1), 4);
    }

    private static void promise14constable() {
        TrapCorner x = Check.city("c;c;p");
        Check.same("constable(1)", x.constable(1), -1);
        Check.same("count(8)", x.count(8), 1);
        String before = Check.whole(x);
        Check.same("constable(1): he is there", x.constable(1), -2);
        Check.same("constable(2)", x.constable(2), -2);
        Check.same("constable(-1)", x.constable(-1), -2);
        for (int wild : Check.WILD) {
            Check.same("constable(wild)", x.constable(wild), -2);
        }
        Check.unchanged("what is refused", x, before);
        Check.same("constable(0)", x.constable(0), 1);
        Check.same("count(12)", x.count(12), 2);
        Check.same("coins", x.rule(1), 20);
        Check.same("constable(-1) in a new city", Check.city("c;c;p").constable(-1), -2);
    }

    private static void promise15about() {
        TrapCorner x = Check.city("c;c;c;p;pr1");
        Check.same("about(0)", x.about(0), 1);
        Check.same("about(1)", x.about(1), 0);
        Check.same("person(0, 5)", x.person(0, 5), 1);
        Check.same("walk(0)", x.walk(0), 2);
        Check.same("about(0)", x.about(0), 0);
        String before = Check.whole(x);
        Check.same("about(2)", x.about(2), -1);
        Check.same("about(-1)", x.about(-1), -1);
        for (int wild : Check.WILD) {
            Check.same("about(wild)", x.about(wild), -1);
        }
        Check.unchanged("what is refused", x, before);
    }

    private static void promise16give() {
        TrapCorner x = Check.city("sc99;c;c;p");
        Check.same("give(1)", x.give(1), 100);
        Check.same("give(50)", x.give(50), 150);
        Check.same("give(51)", x.give(51), -1);
        Check.same("give(0)", x.give(0), -1);
        Check.same("give(-1)", x.give(-1), -1);
        Check.same("give of MAX", x.give(Integer.MAX_VALUE), -1);
        Check.same("give of MIN", x.give(Integer.MIN_VALUE), -1);
        for (int coins = 200; coins <= 950; coins += 50) {
            Check.same("give(50)", x.give(50), coins);
        }
        Check.same("give(50): above 999", x.give(50), -1);
        Check.same("give(49)", x.give(49), 999);
        Check.same("give(1): above 999", x.give(1), -1);
        Check.same("coins", x.rule(1), 999);
        Check.same("give(1) without a city", new TrapCorner().give(1), -1);
    }

    private static long next(long x) {
        return x * 6364136223846793005L + 1442695040888963407L;
    }

    private static void promise17years() {
        TrapCorner x = Check.city("c;c;c;c;c;p;p;pr1");
        x.dogs(9);
        long seed = -77L;
        int[] crumbs = new int[5];
        int[] ways = {0, 0, 1};
        for (int i = 0; i < 25; i++) {
            seed = next(seed);
            int corner = (int) ((seed >>> 33) % 5);
            seed = next(seed);
            crumbs[corner] = (int) ((seed >>> 33) % 4);
            seed = next(seed);
            if ((seed >>> 33) % 10 < 9) {
                seed = next(seed);
                ways[(int) ((seed >>> 33) % 3)] ^= 1;
            }
        }
        Check.same("years(25, -77)", x.years(25, -77L), 25);
        for (int c = 0; c < 5; c++) {
            Check.same("crumb at " + c, x.corner(c, 0), crumbs[c]);
        }
        for (int i = 0; i < 3; i++) {
            Check.same("way of " + i, x.person(i, 5), ways[i]);
        }
        Check.same("count(6)", x.count(6), 25);
        Check.same("count(11)", x.count(11), 25);
        Check.same("count(12)", x.count(12), 25);
        String before = Check.whole(x);
        Check.same("years(0, 1)", x.years(0, 1), -1);
        Check.same("years(31, 1)", x.years(31, 1), -1);
        Check.same("years(-1, 1)", x.years(-1, 1), -1);
        Check.same("years of MAX", x.years(Integer.MAX_VALUE, 1), -1);
        Check.same("years of MIN", x.years(Integer.MIN_VALUE, 1), -1);
        Check.unchanged("what is refused", x, before);
        Check.same("years without a city", new TrapCorner().years(1, 1), -1);
        Check.same("years(1, 1)", x.years(1, 1), 26);
        Check.same("years(30, 1)", x.years(30, 1), 56);
    }

    private static void promise17dogsAndDraws() {
        // without dogs nobody turns; crumbs are laid without coins; people are taken as on any day
        TrapCorner x = Check.city("sc0o9;cs9;cs9;pw0;pa1b0", "y:40");
        x.dogs(0);
        Check.same("years(30, 5)", x.years(30, 5), 30);
        Check.same("way of 0", x.person(0, 5), 0);
        Check.same("way of 1", x.person(1, 5), 0);
        int taken = 0;
        for (int i = 0; i < 30; i++) {
            taken += Integer.bitCount(x.log(i, 0));
        }
        Check.same("coins are those of the taken", x.rule(1), taken);
        Check.same("some were", taken > 0, true);
        // by seed 0 the draws are 167951807, 218396424, 1299921937, 861605236, 823830125, 1204436891, 169888184, 764459975
        yearsBySeed0(0, 0, 1, 0);
        yearsBySeed0(7, 0, 1, 1);
        yearsBySeed0(8, 1, 3, 0);
    }

    private static void yearsBySeed0(int dogs, int corner, int crumb, int way) {
        TrapCorner x = Check.city("c;c;c;c;p");
        x.dogs(dogs);
        Check.same("years(2, 0)", x.years(2, 0), 2);
        for (int c = 0; c < 4; c++) {
            Check.same("crumb at " + c + " with dogs " + dogs, x.corner(c, 0), c == corner ? crumb : 0);
        }
        Check.same("way with dogs " + dogs, x.person(0, 5), way);
    }

    private static void promise17end() {
        TrapCorner x = Check.city("c;c;p", "y:d-970");
        for (int i = 1; i <= 33; i++) {
            Check.same("years(30, i)", x.years(30, i), 30 * i);
        }
        String before = Check.whole(x);
        Check.same("years(10, 1): beyond 999", x.years(10, 1), -1);
        Check.unchanged("that", x, before);
        Check.same("years(8, 1)", x.years(8, 1), 998);
        Check.same("day()", x.day() >= 0, true);
        Check.same("count(6)", x.count(6), 999);
        before = Check.whole(x);
        Check.same("day() beyond 999", x.day(), -1);
        Check.same("years(1, 1) beyond 999", x.years(1, 1), -1);
        Check.tell(x, 2, "r0;d;r0");
        Check.same("run(0, 0) beyond 999", x.run(0, 0), 1);
        Check.same("run(0, 1) beyond 999", x.run(0, 1), 0);
        x.crumb(1, 0);
        x.crumb(1, 1);
        x.about(0);
        x.about(0);
        for (int way = 0; way < x.person(0, 5); way++) {
            x.about(0);
        }
        x.renew(1);
        // apart the days go on: on 999 he is pulled by 29, on 1000 by 30
        Check.same("pulled on 999", x.pulled(0, 1), 29);
        boolean pulled = x.corner(1, 1) > 0 && x.person(0, 6) < 3;
        Check.same("caught on 999", x.caught(0), pulled ? 1 : -1);
        Check.same("yearly on 999", x.yearly(0), pulled ? Math.min(x.corner(1, 1), 3 - x.person(0, 6)) : 0);
        Check.same("perform(0) beyond 999", x.perform(0), 1);
        Check.same("undo() of its step", x.undo() >= 0, true);
        Check.same("log(59, 0)", x.log(59, 0) >= 0, true);
        Check.same("log(60, 0)", x.log(60, 0), -1);
        // a spring of one that gives way on the day behind 999 alone
        TrapCorner y = Check.city("st30;c;ck1s1;p", "y:d/1000*30");
        for (int i = 1; i <= 33; i++) {
            y.years(30, i);
        }
        y.years(9, 1);
        y.crumb(1, y.corner(1, 0) == 1 ? 2 : 1);
        Check.same("caught on 999", y.caught(0), -1);
        Check.same("lasts beyond 999", y.lasts(1), 2);
    }

    private static void promise18undo() {
        TrapCorner x = Check.city(Check.HOME);
        Check.same("undo() of nothing", x.undo(), -1);
        String[] was = new String[8];
        was[0] = Check.whole(x);
        x.day();
        was[1] = Check.whole(x);
        x.crumb(2, 2);
        was[2] = Check.whole(x);
        x.renew(0);
        was[3] = Check.whole(x);
        x.constable(1);
        was[4] = Check.whole(x);
        x.about(2);
        was[5] = Check.whole(x);
        x.give(9);
        was[6] = Check.whole(x);
        x.years(2, 3);
        Check.same("count(12)", x.count(12), 8);
        Check.same("undo() of a year", x.undo(), 7);
        Check.same("count(6)", x.count(6), 2);
        for (int i = 6; i >= 0; i--) {
            Check.same("undo()", x.undo(), i);
            Check.unchanged("undoing act " + i, x, was[i]);
        }
        Check.same("undo() of nothing", x.undo(), -1);
        Check.unchanged("that", x, was[0]);
        x.dogs(5);
        x.law(-1);
        x.image();
        x.seen(0, 1, 1, true);
        Check.same("undo(): these are no acts", x.undo(), -1);
    }

    private static void promise18fortyActs() {
        TrapCorner x = Check.city("sc1;c;c;p");
        for (int i = 1; i <= 45; i++) {
            x.give(1);
            Check.same("count(12)", x.count(12), Math.min(40, i));
        }
        for (int i = 39; i >= 0; i--) {
            Check.same("undo()", x.undo(), i);
            Check.same("coins", x.rule(1), 6 + i);
        }
        Check.same("undo()", x.undo(), -1);
        Check.same("coins", x.rule(1), 6);
        x.give(2);
        Check.same("undo()", x.undo(), 0);
        Check.same("coins", x.rule(1), 6);
    }

    private static void promise19log() {
        TrapCorner x = Check.city("so1;c;ck1s9;pw0g9;pa1b0");
        Check.same("log(0, 0) of no day", x.log(0, 0), -1);
        // each day but the first with a coin more, so that rows can be told apart
        x.day();
        Check.same("log(0, 0)", x.log(0, 0), 1);
        Check.same("log(0, 1)", x.log(0, 1), 0);
        Check.same("log(0, 2)", x.log(0, 2), 21);
        for (int i = 1; i < 65; i++) {
            x.give(1);
            x.day();
        }
        Check.same("count(11)", x.count(11), 60);
        for (int i = 0; i < 60; i++) {
            Check.same("log(" + i + ", 2)", x.log(i, 2), 85 - i);
        }
        Check.same("log(0, 1): his cane", x.log(0, 1), 1);
        x.about(0);
        x.about(1);
        x.crumb(1, 0);
        x.day();
        Check.same("log(0, 1): no cane", x.log(0, 1), 0);
        Check.same("log(1, 1): his cane", x.log(1, 1), 1);
        for (int i = 0; i < 4; i++) {
            x.undo();
        }
        Check.same("log(0, 0): nobody", x.log(0, 0), 0);
        Check.same("log(60, 2)", x.log(60, 2), -1);
        Check.same("log(-1, 2)", x.log(-1, 2), -1);
        Check.same("log(0, 3)", x.log(0, 3), -1);
        Check.same("log(0, -1)", x.log(0, -1), -1);
        for (int wild : Check.WILD) {
            Check.same("log(0, wild)", x.log(0, wild), -1);
        }
        Check.same("log of MAX", x.log(Integer.MAX_VALUE, 0), -1);
        Check.same("log of MIN", x.log(Integer.MIN_VALUE, 0), -1);
        for (int i = 0; i < 36; i++) {
            x.undo();
        }
        Check.same("undo()", x.undo(), -1);
        Check.same("count(6) with forty acts undone", x.count(6), 47);
        Check.same("count(11)", x.count(11), 47);
        Check.same("log(0, 2)", x.log(0, 2), 67);
        Check.same("log(46, 2)", x.log(46, 2), 21);
        Check.same("log(46, 0)", x.log(46, 0), 1);
        rowsComeBack();
    }

    private static void rowsComeBack() {
        TrapCorner x = Check.city("c;c;p");
        for (int i = 1; i <= 60; i++) {
            x.give(1);
            x.day();
        }
        x.image();
        x.years(30, 1);
        x.years(10, 1);
        Check.same("log(59, 2) forty days on", x.log(59, 2), 61);
        for (int i = 0; i < 40; i++) {
            x.undo();
        }
        Check.same("log(59, 2): the row of the first day is back", x.log(59, 2), 21);
        Check.same("log(0, 2)", x.log(0, 2), 80);
        x.years(30, 1);
        x.years(30, 1);
        x.years(30, 1);
        x.back();
        Check.same("log(59, 2) of the image", x.log(59, 2), 21);
        Check.same("log(0, 2) of the image", x.log(0, 2), 80);
    }

    private static void promise22perform() {
        TrapCorner x = Check.city(Check.HOME);
        Check.same("perform(0) without plans", x.perform(0), -1);
        Check.tell(x, 2, "d;k23;s0;r1;d;k04;d");
        Check.tell(x, 2, "r0;r1");
        TrapCorner y = Check.city(Check.HOME);
        y.day();
        y.crumb(2, 3);
        y.renew(0);
        y.about(1);
        y.day();
        Check.same("perform(0)", x.perform(0), 5);
        Check.same("count(12): each step is an act", x.count(12), 5);
        Check.same("it is as by hand", stateOf(x).equals(stateOf(y)), true);
        x.undo();
        y.undo();
        Check.same("the last is undone", stateOf(x).equals(stateOf(y)), true);
        Check.same("perform(1)", x.perform(1), 2);
        Check.same("perform(2)", x.perform(2), -1);
        Check.same("perform(-1)", x.perform(-1), -1);
        for (int wild : Check.WILD) {
            Check.same("perform(wild)", x.perform(wild), -1);
        }
        Check.tell(x, 2, "k90;d");
        Check.same("perform(2): the first can't be", x.perform(2), 0);
        TrapCorner z = new TrapCorner();
        Check.tell(z, 2, "d");
        Check.same("perform(0) without a city", z.perform(0), -1);
    }

    private static String stateOf(TrapCorner x) {
        String whole = Check.whole(x);
        return whole.substring(whole.indexOf('c'));
    }

    private static void promise41and42image() {
        TrapCorner x = new TrapCorner();
        Check.same("image() without a city", x.image(), -1);
        Check.same("back() without a city", x.back(), -1);
        Check.tell(x, 0, Check.HOME);
        Check.same("back() without an image", x.back(), -1);
        x.day();
        x.constable(1);
        x.crumb(2, 1);
        String before = stateOf(x);
        Check.same("image()", x.image(), 1);
        Check.same("count(12): acts can still be undone", x.count(12), 3);
        x.constable(2);
        x.renew(1);
        x.about(0);
        x.years(12, 4);
        Check.same("back()", x.back(), 1);
        Check.same("all is as in the image", stateOf(x).equals(before), true);
        Check.same("constable", x.count(8), 1);
        Check.same("count(12)", x.count(12), 0);
        Check.same("undo()", x.undo(), -1);
        x.give(7);
        Check.same("back() again", x.back(), 1);
        Check.same("all is as in the image", stateOf(x).equals(before), true);
        x.day();
        Check.same("image() instead", x.image(), 2);
        x.day();
        Check.same("back()", x.back(), 2);
        x.seen(0, 5, 1, true);
        x.dogs(6);
        x.back();
        Check.same("count(10): what was seen stays", x.count(10), 1);
        Check.same("count(9): dogs stay", x.count(9), 6);
        Check.tell(x, 0, "c;c;p");
        Check.same("back() in another city", x.back(), -1);
        Check.same("image()", x.image(), 0);
        Check.same("back()", x.back(), 0);
    }

    private static void promise43count() {
        TrapCorner x = Check.city(Check.HOME);
        Check.tell(x, 1, "y:40");
        Check.tell(x, 1, "y:20");
        Check.tell(x, 2, "d");
        Check.put(x, "abc");
        x.law(1);
        x.day();
        x.constable(2);
        x.dogs(4);
        x.seen(1, 2, 3, false);
        // y:20 takes all three: the third at 1 is behind the second
        int[] counts = {3, 3, 2, 1, 3, 1, 1, 2, 2, 4, 1, 1, 2};
        for (int i = 0; i < counts.length; i++) {
            Check.same("count(" + i + ")", x.count(i), counts[i]);
        }
        Check.same("count(13)", x.count(13), Check.HIDDEN);
        Check.same("count(-1)", x.count(-1), Check.HIDDEN);
        Check.same("count of MAX", x.count(Integer.MAX_VALUE), Check.HIDDEN);
        Check.same("count of MIN", x.count(Integer.MIN_VALUE), Check.HIDDEN);
    }
}
