/** The boundary cases of promises 21 and 23 to 40, sentence by sentence: what would be, told apart. */
public final class ApartBoundsTest {
    private static final int MIN = Integer.MIN_VALUE;
    private static final int MAX = Integer.MAX_VALUE;
    private static final int ALL = 1000000000;

    public static void main(String[] args) {
        run();
        behind999();
        pulled();
        numbersOfLaws();
        worth();
        caught();
        baits();
        baitsChoose();
        seen();
        moves();
        movesAsTold();
        ask();
        safe();
        passes();
        walk();
        game();
        rests();
        odds();
        oddsOfOldOnes();
        lasts();
        yearly();
        busiestAndStrongest();
        wariestGreediestOldest();
        honestOldEmpty();
        takenCanesLaid();
        kinds();
        needs();
        shares();
        Check.close();
    }

    private static int runOf(String city, String plan, int what) {
        TrapCorner x = Check.city(city);
        Check.tell(x, 2, plan);
        return x.run(0, what);
    }

    /** A city of no crumbs and springs of one, so many days on. */
    private static TrapCorner lateBy(int days, String city, String law) {
        TrapCorner x = Check.city(city, law);
        int left = days;
        for (int i = 0; i < 40 && left > 0; i++) {
            int n = Math.min(30, left);
            x.years(n, i);
            left -= n;
        }
        Check.same("count(6)", x.count(6), days);
        return x;
    }

    private static void run() {
        Check.bound(21, "HIDDEN: no such PLAN");
        TrapCorner x = Check.city("c;c;p");
        Check.same("run(0, 0) of none", x.run(0, 0), Check.HIDDEN);
        Check.tell(x, 2, "r0");
        for (int plan : new int[] {-1, 1, 4, MIN, MAX}) {
            Check.same("run(" + plan + ", 0)", x.run(plan, 0), Check.HIDDEN);
            Check.same("run(" + plan + ", 1)", x.run(plan, 1), Check.HIDDEN);
        }
        Check.bound(21, "HIDDEN: no such what");
        for (int what : new int[] {-1, 2, MIN, MAX}) {
            Check.same("run(0, " + what + ")", x.run(0, what), Check.HIDDEN);
        }
        Check.bound(21, "HIDDEN: no CITY");
        TrapCorner y = new TrapCorner();
        Check.tell(y, 2, "r0");
        Check.same("run(0, 0)", y.run(0, 0), Check.HIDDEN);
        Check.same("run(0, 1)", y.run(0, 1), Check.HIDDEN);
        Check.bound(21, "NONE: all can be");
        Check.same("one step", runOf("c;c;p", "d", 0), -1);
        Check.same("16 steps", runOf("c;c;p", "d;d;d;d;d;d;d;d;d;d;d;d;d;d;d;r0", 0), -1);
        Check.bound(21, "behind how many the first is that can't be: none, all but one");
        Check.same("the first", runOf("c;c;p", "r1;d", 0), 0);
        Check.same("the last of 16", runOf("c;c;p", "d;d;d;d;d;d;d;d;d;d;d;d;d;d;d;r1", 0), 15);
        Check.same("two can't be", runOf("c;c;p", "d;r1;d;r1", 0), 1);
        Check.bound(21, "a STEP on a CORNER or one that is not there can't be");
        for (int d = 0; d <= 9; d++) {
            Check.same("k" + d + "3", runOf("c;c;c;p;p", "k" + d + "3", 0), d < 3 ? -1 : 0);
            Check.same("k0" + d, runOf("c;c;c;p;p", "k0" + d, 0), d > 0 && d < 4 ? -1 : 0);
            Check.same("s" + d, runOf("c;c;c;p;p", "s" + d, 0), d < 3 ? -1 : 0);
            Check.same("r" + d, runOf("c;c;c;p;p", "r" + d, 0), d < 2 ? -1 : 0);
        }
        Check.bound(21, "a CRUMB that is so, too few COINS, a SPRING of nine: can't be");
        Check.same("it is so", runOf("ck2;c;p", "k02", 0), 0);
        Check.same("it is so then", runOf("c;c;p", "k02;k02", 0), 1);
        Check.same("nothing lies there", runOf("c;c;p", "k00", 0), 0);
        Check.same("1 coin", runOf("sc1;c;c;p", "k01", 0), 0);
        Check.same("2 coins", runOf("sc2;c;c;p", "k01", 0), -1);
        Check.same("3 coins, two crumbs", runOf("sc3;c;c;p", "k01;k11", 0), 1);
        Check.same("no coins to take away", runOf("sc0;ck1;c;p", "k00", 0), -1);
        Check.same("no coins to renew", runOf("sc0;c;c;p", "s0", 0), 0);
        Check.same("1 coin to renew", runOf("sc1;c;c;p", "s0;s0", 0), 1);
        Check.same("nine", runOf("cs9;c;p", "s0", 0), 0);
        Check.same("eight", runOf("cs8;c;p", "s0;s0", 0), 1);
        Check.bound(21, "how many are TAKEN in all its DAYS: none without a DAY");
        Check.same("no day", runOf("c;ck1s9;pg9", "r0;r0", 1), 0);
        Check.same("one day", runOf("c;ck1s9;pg9", "d", 1), 1);
        Check.same("old ones use their canes", runOf("so2;c;ck1s9;pg9", "d;d;d;d", 1), 2);
        Check.same("two a day", runOf("ck1s9;ck1s9;pg9;pg9a1b0", "d;r0;d", 1), 4);
        Check.bound(21, "up to the first STEP that can't be, no DAY behind it");
        Check.same("a day behind", runOf("c;ck1s9;pg9", "d;k99;d", 1), 1);
        Check.same("at once", runOf("c;ck1s9;pg9", "k99;d", 1), 0);
        Check.bound(21, "apart: all is as it was");
        TrapCorner z = Check.city(Check.HOME);
        Check.tell(z, 2, "d;k21;s1;r0;d");
        String before = Check.whole(z);
        z.run(0, 0);
        z.run(0, 1);
        Check.unchanged("run", z, before);
        Check.same("run(0, 0) again", z.run(0, 0), -1);
    }

    private static void behind999() {
        TrapCorner x = lateBy(998, "st30;c;cs1;p", "y:d/1000*30");
        x.crumb(1, x.corner(1, 0) == 1 ? 2 : 1);
        Check.tell(x, 2, "d;d");
        Check.bound(21, "in RUN no DAY goes by behind 999");
        Check.same("run(0, 0) on 998", x.run(0, 0), 1);
        x.day();
        Check.same("count(6)", x.count(6), 999);
        Check.same("run(0, 0) on 999", x.run(0, 0), 0);
        Check.same("run(0, 1) on 999", x.run(0, 1), 0);
        Check.bound(24, "on a DAY now, on 999, too");
        Check.same("caught(0) on 999 by d of 999", x.caught(0), -1);
        Check.same("all(8)", x.all(8), 0);
        Check.bound(35, "DAYS go on behind 999");
        Check.same("lasts(1): on 1000 he is taken", x.lasts(1), 2);
        Check.bound(36, "DAYS go on behind 999");
        Check.same("yearly(0)", x.yearly(0), 1);
        Check.bound(23, "d the DAY: 999");
        TrapCorner y = lateBy(999, "cs0;cs0;p", "y:d-970");
        Check.same("pulled(0, 0)", y.pulled(0, 0), 29);
        y.crumb(1, y.corner(1, 0) == 1 ? 2 : 1);
        y.renew(1);
        if (y.person(0, 5) == 1) {
            y.about(0);
        }
        Check.same("caught(0) on 999", y.caught(0), 1);
        Check.same("all(8)", y.all(8), 1);
        Check.same("odds(0, 0)", y.odds(0, 0), ALL);
        Check.same("game(0, 1, 1, 0, 0)", y.game(0, 1, 1, 0, 0), 4);
        Check.same("baits(1, 0)", y.baits(1, 0), 1);
        Check.same("day()", y.day(), -1);
    }

    private static void pulled() {
        Check.bound(23, "NONE: no such one");
        TrapCorner x = Check.city(Check.HOME);
        for (int i : new int[] {-1, 3, 6, MIN, MAX}) {
            Check.same("pulled(" + i + ", 0)", x.pulled(i, 0), -1);
        }
        Check.bound(23, "NONE: no such CORNER");
        for (int c : new int[] {-1, 3, 5, MIN, MAX}) {
            Check.same("pulled(0, " + c + ")", x.pulled(0, c), -1);
        }
        Check.same("pulled(0, 0) without a city", new TrapCorner().pulled(0, 0), -1);
        Check.bound(23, "without a LAW it is not below 0");
        Check.same("spring 9 less 9", Check.city("cs9;c;pw9").pulled(0, 0), 0);
        Check.same("spring 8 less 9", Check.city("cs8;c;pw9").pulled(0, 0), 0);
        Check.same("spring 0 less 9", Check.city("cs0;c;pw9").pulled(0, 0), 0);
        Check.same("spring 9 less 8", Check.city("cs9;c;pw8").pulled(0, 0), 1);
        Check.bound(23, "without a LAW 27 is the most");
        Check.same("twice 9 and 9 less 0", Check.city("ck1s9;c;pg9w0").pulled(0, 0), 27);
        Check.bound(23, "WORTH held within 0 .. 40");
        for (int n : new int[] {0, 1, 39, 40, 41, 9999}) {
            Check.same("y:" + n, pullBy("y:" + n), Math.min(40, n));
        }
        Check.same("y:0-1", pullBy("y:0-1"), 0);
        Check.same("y:0-9999", pullBy("y:0-9999"), 0);
        Check.same("y:9999*9999", pullBy("y:9999*9999"), 40);
        Check.same("y:0-9999*9999", pullBy("y:0-9999*9999"), 0);
        Check.bound(23, "where no trap could take him: with no SPRING, no CRUMB, off his WALK");
        TrapCorner y = Check.city("ck1s9;ck0s9;ck1s0;pg9w0");
        int[] due = {27, 9, 18};
        for (int c = 0; c < 3; c++) {
            Check.same("pulled(0, " + c + ")", y.pulled(0, c), due[c]);
        }
        Check.bound(23, "m whether its CRUMB is his MOTIVE: 1 or 0");
        for (int k = 0; k <= 3; k++) {
            for (int m = 1; m <= 3; m++) {
                Check.same("crumb " + k + ", motive " + m, Check.city("ck" + k + ";c;pm" + m, "y:m+6").pulled(0, 0), k == m ? 7 : 6);
            }
        }
        Check.bound(23, "letters at their least and most");
        TrapCorner least = Check.city("cs0;c;pg0w0", "y:1+g+w+s+n+d");
        Check.same("all 0", least.pulled(0, 0), 1);
        TrapCorner most = Check.city("ck3s9;c;pm3g9w9", "y:m+g+w+s+n+d");
        Check.same("1 and thrice 9", most.pulled(0, 0), 28);
    }

    private static int pullBy(String law) {
        return Check.city("ck1s5;c;pm1g4w2a1b0", law).pulled(0, 0);
    }

    private static void sum(String law, int want) {
        Check.same("pulled by " + law, pullBy(law), want);
    }

    private static void numbersOfLaws() {
        Check.bound(23, "behind + a number is 1,000,000 at most");
        sum("y:9999*100+100-9999*100-99", 1);
        sum("y:9999*100+101-9999*100-99", 1);
        sum("y:9999*100+9999-9999*100-99", 1);
        Check.bound(23, "behind - a number is -1,000,000 at least");
        sum("y:0-9999*100-100+9999*100+101", 1);
        sum("y:0-9999*100-101+9999*100+101", 1);
        sum("y:0-9999*100-9999+9999*100+101", 1);
        Check.bound(23, "behind * a number is within -1,000,000 .. 1,000,000");
        sum("y:1000*1000/9999*100-9999", 1);
        sum("y:1000*1000/1000-999", 1);
        sum("y:1001*1000/1000-999", 1);
        sum("y:9999*9999/1000-999", 1);
        sum("y:[0-1001]*1000/1000+1001", 1);
        sum("y:[0-9999]*9999/1000+1001", 1);
        sum("y:9999*9999*9999/1000-999", 1);
        sum("y:[1000*1000]*[1000*1000]/1000-999", 1);
        sum("y:[1000*1000]*[0-1000*1000]/1000+1001", 1);
        sum("y:[0-1000*1000]*[0-1000*1000]/1000-999", 1);
        Check.bound(23, "within [ ] it is held, too");
        sum("y:[9999*9999]-9999*100-99", 1);
        sum("y:[[9999*100+9999]-9999*100]-99", 1);
        Check.bound(23, "a number within the bounds is not held");
        sum("y:999*1000+999-999*1000-998", 1);
        sum("y:1000*1000-1-999*1000-998", 1);
        Check.bound(23, "/ cuts towards 0");
        sum("y:7/2", 3);
        sum("y:1/2", 0);
        sum("y:[0-7]/2+9", 6);
        sum("y:7/[0-2]+9", 6);
        sum("y:[0-7]/[0-2]", 3);
        sum("y:[0-1]/2+9", 9);
        sum("y:8/2", 4);
        Check.bound(23, "/ by 0 gives 0");
        sum("y:7/0+5", 5);
        sum("y:0/0+5", 5);
        sum("y:[0-7]/0+5", 5);
        sum("y:7/n+5", 5);
        sum("y:7/[g-4]+5", 5);
        sum("y:7/0/0+5", 5);
        sum("y:7/0*9+5", 5);
        sum("y:1=5/0|0=5/0?7;y:9", 7);
        Check.bound(23, "signs of one kind from the left, * and / ahead of + and -");
        sum("y:9-4-3", 2);
        sum("y:9-4+3", 8);
        sum("y:20/5*2", 8);
        sum("y:20/5/2", 2);
        sum("y:3*5/2", 7);
        sum("y:2+3*4", 14);
        sum("y:20-8/4", 18);
        Check.bound(23, "numbers of 1 and 4 digits, zeros ahead");
        sum("y:0", 0);
        sum("y:0000", 0);
        sum("y:0007", 7);
        sum("y:9999-9990", 9);
    }

    private static void worth() {
        Check.bound(23, "the first CLAUSE whose CONDITION holds");
        sum("y:1=1?7;y:1=1?8", 7);
        sum("y:1=2?7;y:1=1?8", 8);
        sum("y:1=2?7;y:1=2?8;y:9", 9);
        Check.bound(23, "a CLAUSE that has none holds");
        sum("y:7;y:8", 7);
        sum("y:7;y:1=1?8", 7);
        Check.bound(23, "0 without");
        sum("y:1=2?7", 0);
        sum("y:1=2?7;y:1=2?8", 0);
        Check.bound(23, "= < > at the edge");
        int[][] due = {{9, 7, 9}, {7, 9, 9}, {9, 9, 7}};
        for (int n = 3; n <= 5; n++) {
            sum("y:" + n + "<4?7;y:9", n < 4 ? 7 : 9);
            sum("y:" + n + "=4?7;y:9", n == 4 ? 7 : 9);
            sum("y:" + n + ">4?7;y:9", n > 4 ? 7 : 9);
            sum("y:0-" + n + "<0-4?7;y:9", due[2][n - 3]);
        }
        sum("y:g=4?7;y:9", due[1][0]);
        Check.bound(23, "& ahead of |, ! ahead of both");
        sum("y:1=1|1=1&1=2?7;y:9", 7);
        sum("y:(1=1|1=1)&1=2?7;y:9", 9);
        sum("y:1=2&1=2|1=1?7;y:9", 7);
        sum("y:1=2&(1=2|1=1)?7;y:9", 9);
        sum("y:!1=1|1=1?7;y:9", 7);
        sum("y:!(1=1|1=1)?7;y:9", 9);
        sum("y:!1=2&1=2?7;y:9", 9);
        Check.bound(23, "what holds is one thing, by whichever sign, also behind & and |");
        for (String holds : new String[] {"1=1", "1<2", "2>1", "!1=2", "!2<1", "!1>2", "!!1=1", "(1<2)", "(1=2|2>1)"}) {
            for (String other : new String[] {"1=1", "1<2", "2>1", "!1=2"}) {
                sum("y:" + holds + "&" + other + "?7;y:9", 7);
                sum("y:!(" + holds + "&" + other + ")?7;y:9", 9);
                sum("y:" + holds + "|!" + other + "?7;y:9", 7);
                sum("y:!" + holds + "|!" + other + "?7;y:9", 9);
            }
        }
        Check.bound(23, "six ! within one another");
        sum("y:!!!!!!1=1?7;y:9", 7);
        sum("y:!!!!!1=1?7;y:9", 9);
        Check.bound(23, "60 CLAUSES, the last one holds");
        TrapCorner x = Check.city("ck1s5;c;pm1g4w2a1b0");
        StringBuilder law = new StringBuilder();
        for (int i = 0; i < 29; i++) {
            law.append("y:1=2?3;");
        }
        law.append("y:12");
        Check.same("text(1)", Check.tell(x, 1, law.toString()), 0);
        x.law(0);
        Check.same("pulled(0, 0)", x.pulled(0, 0), 12);
        Check.bound(23, "as deep as can be on both sides");
        sum("y:1+[1+[1+[1+[1+[1+[1]]]]]]", 7);
        sum("y:3+2*[3+2*[3+2*[3+2*[3+2*[3+2*[3+2*0]]]]]]-380", 1);
        sum("y:9-[8-[7-[6-[5-[4-[3-2]]]]]]", 4);
        sum("y:1=2|1=1&(1=2|1=1&(1=2|1=1&(1=2|1=1&(1=2|1=1&(1=2|1=1&3+2*2=7)))))?7;y:9", 7);
        sum("y:1=2|1=1&(1=2|1=1&(1=2|1=1&(1=2|1=1&(1=2|1=1&(1=2|1=1&3+2*2=8)))))?7;y:9", 9);
        sum("y:0=1|1=1&(0=1|1=1&(0=1|1=1&!!!3+2*2=7))?7;y:9", 9);
    }

    private static void caught() {
        Check.bound(24, "NONE: no such one");
        TrapCorner x = Check.city(Check.HOME);
        for (int i : new int[] {-1, 3, 6, MIN, MAX}) {
            Check.same("caught(" + i + ")", x.caught(i), -1);
        }
        Check.same("caught(0) without a city", new TrapCorner().caught(0), -1);
        Check.bound(24, "NONE: nowhere");
        Check.same("no crumb", Check.city("c;c;p", "y:40").caught(0), -1);
        Check.same("no spring", Check.city("c;ck1s0;p", "y:40").caught(0), -1);
        Check.same("not enough", Check.city("c;ck1;p", "y:7").caught(0), -1);
        Check.bound(24, "the CORNER: the first, the last of five");
        Check.same("0", Check.city("ck1;c;c;c;c;pa4b0", "y:40").caught(0), 0);
        Check.same("4", Check.city("c;c;c;c;ck1;pa3b4", "y:40").caught(0), 4);
        Check.same("the fourth of his walk", Check.city("c;c;c;c;ck1;pa0b4", "y:40").caught(0), 4);
        Check.bound(24, "behind those of lower numbers");
        TrapCorner y = Check.city("c;ck1;ck1;pb2;pb2;pb2", "y:40");
        int[] due = {1, 2, -1};
        for (int i = 0; i < 3; i++) {
            Check.same("caught(" + i + ")", y.caught(i), due[i]);
        }
        Check.same("count(6): no day went by", y.count(6), 0);
    }

    private static void bait(TrapCorner x, int people, int row, int others) {
        Check.same("baits(" + people + ", 0)", x.baits(people, 0), row);
        Check.same("baits(" + people + ", 1)", x.baits(people, 1), others);
    }

    private static void baits() {
        Check.bound(25, "NONE: no CITY");
        bait(new TrapCorner(), 0, -1, -1);
        Check.bound(25, "NONE: no such set (0 .. all)");
        String text = "c;c";
        for (int n = 1; n <= 6; n++) {
            text += ";p";
            TrapCorner x = Check.city(text, "y:40");
            bait(x, 1 << n, -1, -1);
            bait(x, -1, -1, -1);
        }
        TrapCorner x = Check.city(text, "y:40");
        bait(x, MAX, -1, -1);
        bait(x, MIN, -1, -1);
        bait(x, 128, -1, -1);
        Check.bound(25, "all: the greatest set there is");
        bait(Check.city("c;c;c;pb1;pa1b2", "y:40"), 3, 11, 0);
        bait(Check.city("c;c;c;c;c;pa4b0;pa0b1;pa1b2;pa2b3;pa3b4", "y:40"), 31, 11111, 0);
        bait(x, 63, -1, -1);
        Check.bound(25, "NONE: no such what");
        for (int what : new int[] {-1, 2, MIN, MAX}) {
            Check.same("baits(1, " + what + ")", x.baits(1, what), -1);
        }
        Check.bound(25, "NONE: by none");
        bait(Check.city("cs0;cs0;p", "y:40"), 1, -1, -1);
        bait(Check.city("c;c;p", "y:7"), 1, -1, -1);
        bait(Check.city("c;c;p;p", "y:40"), 2, -1, -1);
        Check.bound(25, "a set of none: nobody is TAKEN without a CRUMB");
        bait(Check.city("ck1s9;ck1s9;p;p", "y:40"), 0, 0, 0);
        Check.bound(25, "rows from none to all 3: the first CORNER is the highest digit");
        bait(Check.city("c;c;c;c;c;pm3a4b0", "y:m*40"), 1, 30000, 0);
        bait(Check.city("c;c;c;c;c;pm3a3b4", "y:m*40"), 1, 3, 0);
        bait(Check.city("c;c;pm3a1b0", "y:m*40"), 1, 30, 0);
        bait(Check.city("c;c;c;c;c;pm3a4b0;pm3a0b1;pm3a1b2;pm3a2b3;pm3a3b4", "y:m*40"), 31, 33333, 0);
        Check.bound(25, "COINS do not matter");
        bait(Check.city("sc0;c;c;p", "y:40"), 1, 1, 0);
        Check.bound(25, "what lies now does not matter, and lies so then");
        TrapCorner y = Check.city("ck2;ck3;p", "y:m*40");
        bait(y, 1, 1, 0);
        Check.same("corner(0, 0)", y.corner(0, 0), 2);
        Check.same("corner(1, 0)", y.corner(1, 0), 3);
    }

    private static void baitsChoose() {
        Check.bound(25, "the one by which the fewest others are");
        // by 1 at 1 both are drawn there and the first takes it; by 2 at 2 the second alone
        bait(Check.city("c;c;c;pm1b1;pm2b2", "y:m*40"), 2, 2, 0);
        bait(Check.city("c;c;c;c;pa1b3;pa0b3", "y:40"), 2, 100, 0);
        bait(Check.city("c;c;c;pb2;pb2", "y:40"), 2, 11, 1);
        bait(Check.city("c;c;c;c;pb3;pb3;pb3", "y:40"), 4, 111, 2);
        Check.bound(25, "of several the fewest CRUMBS other than 0");
        // by 011, 110 and 111 he is taken, too; a crumb that takes nobody can always be left out
        bait(Check.city("c;c;c;pb1", "y:40"), 1, 10, 0);
        bait(Check.city("c;c;c;c;pa0b1;pa2b3", "y:40"), 1, 100, 0);
        bait(Check.city("c;c;c;c;pa0b1;pa2b3", "y:40"), 3, 101, 0);
        Check.bound(25, "then the least row");
        bait(Check.city("c;c;c;c;c;pa0b4", "y:40"), 1, 1, 0);
        bait(Check.city("c;c;c;c;c;pa0b4", "y:m*40"), 1, 1, 0);
        bait(Check.city("c;c;c;c;c;pm2a0b4", "y:m*40"), 1, 2, 0);
        bait(Check.city("c;c;c;c;c;pa0b4r1", "y:40"), 1, 1, 0);
        Check.bound(25, "an OLD one is TAKEN where the CONSTABLE is alone");
        TrapCorner x = Check.city("so1;ck1s9;ck1s9;cs9;pa2b1", "y:40");
        x.day();
        bait(x, 1, -1, -1);
        x.constable(1);
        bait(x, 1, 10, 0);
        x.constable(2);
        bait(x, 1, -1, -1);
    }

    private static void seen() {
        TrapCorner x = Check.city(Check.HOME);
        Check.bound(26, "NONE: no such one");
        for (int i : new int[] {-1, 3, 6, MIN, MAX}) {
            Check.same("seen(" + i + ", 1, 1, true)", x.seen(i, 1, 1, true), -1);
        }
        Check.same("seen without a city", new TrapCorner().seen(0, 1, 1, true), -1);
        Check.bound(26, "SPRING 1 .. 9; NONE: out of bounds");
        for (int s : new int[] {0, 10, -1, MIN, MAX}) {
            Check.same("seen(0, " + s + ", 1, true)", x.seen(0, s, 1, true), -1);
        }
        Check.bound(26, "CRUMB 1 .. 3; NONE: out of bounds");
        for (int k : new int[] {0, 4, -1, MIN, MAX}) {
            Check.same("seen(0, 1, " + k + ", true)", x.seen(0, 1, k, true), -1);
        }
        Check.same("count(10)", x.count(10), 0);
        Check.same("moves(0, -1)", x.moves(0, -1), 30);
        Check.bound(26, "how many there are, of all PEOPLE together");
        Check.same("spring 1, crumb 1", x.seen(0, 1, 1, false), 1);
        Check.same("spring 9, crumb 3", x.seen(2, 9, 3, true), 2);
        Check.same("the same again", x.seen(2, 9, 3, true), 3);
        Check.bound(26, "10 at most; NONE: there are ten");
        for (int i = 4; i <= 10; i++) {
            Check.same("seen", x.seen(1, 5, 2, true), i);
        }
        Check.same("an eleventh", x.seen(1, 9, 1, false), -1);
        Check.same("of another", x.seen(0, 9, 1, false), -1);
        Check.same("count(10)", x.count(10), 10);
        Check.same("moves(1, -1): as of ten", x.moves(1, -1), 8);
        Check.bound(26, "the tenth counts");
        TrapCorner y = Check.city("c;c;p");
        for (int i = 1; i <= 9; i++) {
            y.seen(0, 1, 1, false);
        }
        // 2 g + 1 - 2 < 8: up to 4 of 1, all of 2 and 3
        Check.same("moves(0, -1) by nine", y.moves(0, -1), 25);
        Check.same("the tenth", y.seen(0, 1, 2, false), 10);
        Check.same("moves(0, -1) by ten", y.moves(0, -1), 20);
    }

    private static void moves() {
        TrapCorner x = Check.city("c;c;p;p");
        Check.bound(27, "how many (i NONE): all 30 with nothing SEEN");
        Check.same("moves(0, -1)", x.moves(0, -1), 30);
        Check.same("moves(1, -1)", x.moves(1, -1), 30);
        Check.bound(27, "the i-th, rising: 10 .. 39");
        for (int i = 0; i < 30; i++) {
            Check.same("moves(0, " + i + ")", x.moves(0, i), 10 + i);
        }
        Check.bound(27, "NONE: no such i");
        for (int i : new int[] {-2, 30, 31, MIN, MAX}) {
            Check.same("moves(0, " + i + ")", x.moves(0, i), -1);
        }
        Check.bound(27, "NONE: no such PERSON");
        for (int i : new int[] {-1, 2, 6, MIN, MAX}) {
            Check.same("moves(" + i + ", -1)", x.moves(i, -1), -1);
            Check.same("moves(" + i + ", 0)", x.moves(i, 0), -1);
        }
        Check.same("moves(0, -1) without a city", new TrapCorner().moves(0, -1), -1);
        Check.bound(27, "none fits: 0, and no i-th");
        x.seen(0, 5, 1, true);
        x.seen(0, 5, 1, false);
        Check.same("moves(0, -1)", x.moves(0, -1), 0);
        Check.same("moves(0, 0)", x.moves(0, 0), -1);
        Check.bound(27, "of another nothing was SEEN");
        Check.same("moves(1, -1)", x.moves(1, -1), 30);
        Check.bound(27, "PULL as much as TAKES one fits TAKEN, one less does not");
        // wary 2, takes 8: 2 g + s - 2 >= 8
        for (int s = 1; s <= 9; s++) {
            TrapCorner y = Check.city("c;c;p");
            y.seen(0, s, 2, true);
            int least = (10 - s + 1) / 2;
            Check.same("moves(0, -1) by " + s, y.moves(0, -1), 10 - least);
            Check.same("moves(0, 0) by " + s, y.moves(0, 0), 20 + least);
            Check.same("the last by " + s, y.moves(0, 9 - least), 29);
            Check.same("behind it", y.moves(0, 10 - least), -1);
            TrapCorner z = Check.city("c;c;p");
            z.seen(0, s, 2, false);
            Check.same("moves(0, -1) by " + s, z.moves(0, -1), 20 + least);
        }
    }

    private static void movesAsTold() {
        Check.bound(27, "as WARY as told, whatever he is now");
        TrapCorner x = Check.city("so9;c;ck1s9;pg9w2");
        x.seen(0, 2, 1, true);
        Check.same("moves(0, -1)", x.moves(0, -1), 6);
        Check.same("day()", x.day(), 1);
        Check.same("moves(0, -1)", x.moves(0, -1), 6);
        Check.bound(27, "never TAKEN, on DAY 0");
        TrapCorner y = Check.city("so9;c;ck1s9;p", "y:n=0&d=0?m*g;y:40");
        y.day();
        y.law(-1);
        y.day();
        y.law(0);
        y.seen(0, 5, 1, true);
        Check.same("moves(0, -1)", y.moves(0, -1), 2);
        Check.same("moves(0, 0)", y.moves(0, 0), 18);
        Check.bound(27, "by the LAW that holds when it is asked for");
        y.law(-1);
        Check.same("moves(0, -1)", y.moves(0, -1), 7);
        Check.bound(27, "an OLD one, too: he was never TAKEN then");
        TrapCorner z = Check.city("so1;c;ck1s9;pg9w2");
        z.day();
        Check.same("old", z.all(6), 1);
        z.seen(0, 2, 1, true);
        Check.same("moves(0, -1)", z.moves(0, -1), 6);
        Check.bound(27, "his own MOTIVE and GREED do not matter, nor the CORNERS");
        TrapCorner v = Check.city("cs0;ck3s0;pm3g0w2");
        v.seen(0, 2, 1, true);
        Check.same("moves(0, 0)", v.moves(0, 0), 14);
    }

    private static void ask() {
        TrapCorner x = Check.city("c;c;p;p");
        Check.bound(28, "NONE: no such one");
        for (int i : new int[] {-1, 2, 6, MIN, MAX}) {
            Check.same("ask(" + i + ", 3)", x.ask(i, 3), -1);
        }
        Check.same("ask(0, 3) without a city", new TrapCorner().ask(0, 3), -1);
        Check.bound(28, "s 1 .. 9; NONE: out of bounds");
        for (int s : new int[] {0, 10, -1, MIN, MAX}) {
            Check.same("ask(0, " + s + ")", x.ask(0, s), -1);
        }
        for (int s = 1; s <= 9; s++) {
            Check.same("ask(0, " + s + ")", x.ask(0, s), 1);
        }
        Check.bound(28, "of several the lowest");
        Check.same("all alike", x.ask(0, 5), 1);
        // none of motive 1 is left but greed 0: 2 and 3 are alike
        x.seen(0, 9, 1, false);
        Check.same("2 and 3 alike", x.ask(0, 5), 2);
        Check.bound(28, "NONE: nothing fits");
        x.seen(0, 9, 1, true);
        Check.same("ask(0, 5)", x.ask(0, 5), -1);
        Check.same("ask(1, 5): of another", x.ask(1, 5), 1);
        Check.bound(28, "a single one that fits: all are as far apart");
        TrapCorner y = Check.city("c;c;p", "y:m=1&g=7?40");
        y.seen(0, 1, 3, true);
        Check.same("moves(0, -1)", y.moves(0, -1), 1);
        Check.same("moves(0, 0)", y.moves(0, 0), 37);
        Check.same("ask(0, 1)", y.ask(0, 1), 1);
        Check.bound(28, "half and half is the least apart, whichever CRUMB it is");
        for (int k = 1; k <= 3; k++) {
            TrapCorner z = Check.city("c;c;p", "y:m=1&g<5?40");
            for (int other = 1; other <= 3; other++) {
                if (other != k) {
                    z.seen(0, 1, other, false);
                }
            }
            // of k all ten, of the others greed 5 to 9
            Check.same("moves(0, -1)", z.moves(0, -1), 20);
            Check.same("ask(0, 1)", z.ask(0, 1), k);
        }
        Check.bound(28, "least apart in number, whichever are more");
        // 10 .. 15, 20 .. 22, 30: by 1 six and four, by 2 three and seven
        TrapCorner w = Check.city("c;c;p", "y:m=1&g+s>8?40");
        w.seen(0, 3, 1, false);
        w.seen(0, 6, 2, false);
        w.seen(0, 8, 3, false);
        Check.same("moves(0, -1)", w.moves(0, -1), 10);
        Check.same("ask(0, 9)", w.ask(0, 9), 1);
        // 10 .. 12, 20 .. 25, 30: by 2 six and four
        TrapCorner u = Check.city("c;c;p", "y:m=1&g+s>8?40");
        u.seen(0, 6, 1, false);
        u.seen(0, 3, 2, false);
        u.seen(0, 8, 3, false);
        Check.same("ask(0, 9)", u.ask(0, 9), 2);
        Check.bound(28, "more of the others and more of those are as far apart");
        // 10 .. 13, 20 .. 25, no one of 3: by 1 four and six, by 2 six and four
        TrapCorner t = Check.city("c;c;p", "y:m=1&g+s>8?40");
        t.seen(0, 5, 1, false);
        t.seen(0, 3, 2, false);
        t.seen(0, 9, 3, false);
        Check.same("moves(0, -1)", t.moves(0, -1), 10);
        Check.same("ask(0, 9)", t.ask(0, 9), 1);
    }

    private static void safe() {
        Check.bound(29, "NONE: no such one");
        TrapCorner x = Check.city(Check.HOME);
        for (int i : new int[] {-1, 3, 6, MIN, MAX}) {
            Check.same("safe(" + i + ")", x.safe(i), -1);
        }
        Check.same("safe(0) without a city", new TrapCorner().safe(0), -1);
        Check.bound(29, "the WAY on which he would not be TAKEN, though it is longer");
        Check.same("falling, of 4 corners", Check.city("c;ck1;c;c;c;pb1", "y:40").safe(0), 0);
        Check.same("falling, by four", Check.city("c;ck1;c;c;c;pb2", "y:40").safe(0), 1);
        Check.same("rising, by three", Check.city("c;c;c;c;ck1;pb3", "y:40").safe(0), 0);
        Check.bound(29, "both: the one with the shorter WALK");
        Check.same("rising", Check.city("c;c;c;pr1").safe(0), 0);
        Check.same("falling", Check.city("c;c;c;pb2").safe(0), 1);
        Check.bound(29, "neither: the one with the shorter WALK");
        Check.same("rising", Check.city("c;ck1;c;pb1r1", "y:40").safe(0), 0);
        Check.same("falling", Check.city("c;c;ck1;pb2", "y:40").safe(0), 1);
        Check.bound(29, "both as long: 0");
        for (int r = 0; r < 2; r++) {
            Check.same("both", Check.city("c;c;pr" + r).safe(0), 0);
            Check.same("neither", Check.city("c;ck1;pr" + r, "y:40").safe(0), 0);
            Check.same("both, of four", Check.city("c;c;c;c;pb2r" + r).safe(0), 0);
            Check.same("neither, of four", Check.city("c;c;ck1;c;pb2r" + r, "y:40").safe(0), 0);
        }
        Check.bound(29, "whichever WAY he goes now: he does not turn");
        TrapCorner y = Check.city("c;ck1;c;c;pb2", "y:40");
        Check.same("safe(0)", y.safe(0), 1);
        Check.same("person(0, 5)", y.person(0, 5), 0);
        y.about(0);
        Check.same("safe(0)", y.safe(0), 1);
        Check.bound(29, "those of lower numbers go ahead of him, the others behind");
        Check.same("behind one who springs it", Check.city("c;ck1;c;ck1;pb1;pb2", "y:40").safe(1), 0);
        Check.same("ahead of him", Check.city("c;ck1;c;c;pb2;pb1", "y:40").safe(0), 1);
        Check.bound(29, "an OLD one is not TAKEN");
        TrapCorner z = Check.city("so1;c;ck1s9;c;pb1", "y:40");
        z.day();
        Check.same("safe(0)", z.safe(0), 0);
        z.constable(1);
        Check.same("safe(0): neither", z.safe(0), 0);
    }

    private static void passes() {
        Check.bound(30, "NONE: no such CORNER");
        TrapCorner x = Check.city("c;c;c;c;c;pa0b4;pa0b4r1;pa4b0;pa4b0r1;pa2b1;pa2b1r1");
        for (int c : new int[] {-1, 5, MIN, MAX}) {
            Check.same("passes(" + c + ")", x.passes(c), -1);
        }
        Check.same("passes(2) of two", Check.city("c;c;p").passes(2), -1);
        Check.same("passes(0) without a city", new TrapCorner().passes(0), -1);
        Check.bound(30, "not who comes from there, but who goes to there; round the ring both ways");
        // 0 to 4: 1 2 3 4; other way: 4; 4 to 0: 0; other way: 3 2 1 0; 2 to 1: 3 4 0 1; other way: 1
        int[] due = {4 + 8 + 16, 1 + 8 + 16 + 32, 1 + 8, 1 + 8 + 16, 1 + 2 + 16};
        for (int c = 0; c < 5; c++) {
            Check.same("passes(" + c + ")", x.passes(c), due[c]);
        }
        Check.bound(30, "nobody: 0; all six: 63");
        TrapCorner y = Check.city("c;c;p;p;p;p;p;p");
        Check.same("passes(0)", y.passes(0), 0);
        Check.same("passes(1)", y.passes(1), 63);
        Check.bound(30, "who would be TAKEN ahead of it, too");
        Check.same("passes(2)", Check.city("c;ck1;c;pb2", "y:40").passes(2), 1);
    }

    private static void walk() {
        Check.bound(31, "NONE: no such one");
        TrapCorner x = Check.city("c;c;p");
        for (int i : new int[] {-1, 1, 6, MIN, MAX}) {
            Check.same("walk(" + i + ")", x.walk(i), -1);
        }
        Check.same("walk(0) without a city", new TrapCorner().walk(0), -1);
        Check.bound(31, "from 1 to one less than there are CORNERS, any pair, both WAYS");
        String corners = "c";
        for (int n = 2; n <= 5; n++) {
            corners += ";c";
            for (int a = 0; a < n; a++) {
                for (int b = 0; b < n; b++) {
                    if (a != b) {
                        TrapCorner y = Check.city(corners + ";pa" + a + "b" + b);
                        int rising = (b - a + n) % n;
                        Check.same("walk of " + a + " to " + b + " of " + n, y.walk(0), rising);
                        y.about(0);
                        Check.same("walk of " + a + " to " + b + " of " + n + ", falling", y.walk(0), n - rising);
                    }
                }
            }
        }
    }

    private static void game() {
        TrapCorner x = Check.city(Check.HOME);
        Check.bound(32, "HIDDEN: no such one");
        for (int i : new int[] {-1, 3, 6, MIN, MAX}) {
            Check.same("game(" + i + ", 0, 0, 0, 0)", x.game(i, 0, 0, 0, 0), Check.HIDDEN);
        }
        Check.same("game without a city", new TrapCorner().game(0, 0, 0, 0, 0), Check.HIDDEN);
        Check.bound(32, "HIDDEN: no such CORNER");
        for (int c : new int[] {-1, 3, 5, MIN, MAX}) {
            Check.same("game(0, " + c + ", 0, 0, 0)", x.game(0, c, 0, 0, 0), Check.HIDDEN);
        }
        Check.bound(32, "x 0 .. 3; HIDDEN: out of bounds");
        for (int k : new int[] {-1, 4, MIN, MAX}) {
            Check.same("game(0, 0, " + k + ", 0, 0)", x.game(0, 0, k, 0, 0), Check.HIDDEN);
        }
        Check.bound(32, "y 0, 1; HIDDEN: out of bounds");
        for (int way : new int[] {-1, 2, MIN, MAX}) {
            Check.same("game(0, 0, 0, " + way + ", 0)", x.game(0, 0, 0, way, 0), Check.HIDDEN);
        }
        Check.bound(32, "HIDDEN: no such what");
        for (int what : new int[] {-1, 2, MIN, MAX}) {
            Check.same("game(0, 0, 0, 0, " + what + ")", x.game(0, 0, 0, 0, what), Check.HIDDEN);
        }
        Check.bound(32, "the baiter: 6 if he is TAKEN there, 2 less for a CRUMB other than 0");
        TrapCorner y = Check.city("c;ck1;ck2;pb2", "y:m*40");
        int[] due = {0, 4, -2, -2};
        for (int k = 0; k <= 3; k++) {
            Check.same("game(0, 1, " + k + ", 0, 0)", y.game(0, 1, k, 0, 0), due[k]);
            Check.same("game(0, 1, " + k + ", 1, 0): he does not come there", y.game(0, 1, k, 1, 0), k == 0 ? 0 : -2);
        }
        Check.bound(32, "he: 6 less if he is TAKEN anywhere, less LONG by the WAY that he goes");
        TrapCorner z = Check.city("c;c;ck1;pb2", "y:40");
        Check.same("game(0, 1, 0, 0, 0): taken, but not there", z.game(0, 1, 0, 0, 0), 0);
        Check.same("game(0, 1, 0, 0, 1)", z.game(0, 1, 0, 0, 1), -8);
        Check.same("game(0, 1, 1, 0, 1)", z.game(0, 1, 1, 0, 1), -8);
        Check.same("game(0, 1, 0, 1, 1)", z.game(0, 1, 0, 1, 1), -7);
        Check.same("game(0, 2, 0, 0, 1)", z.game(0, 2, 0, 0, 1), -2);
        Check.same("game(0, 2, 0, 1, 1)", z.game(0, 2, 0, 1, 1), -1);
        Check.same("the longest: four", Check.city("c;c;c;c;c;pb4").game(0, 0, 0, 0, 1), -4);
        Check.same("the longest, and taken", Check.city("c;c;c;c;ck1;pb4", "y:40").game(0, 0, 0, 0, 1), -10);
        Check.bound(32, "on a CORNER off his WALK, and the one he comes from");
        Check.same("game(0, 0, 3, 0, 0)", z.game(0, 0, 3, 0, 0), -2);
        Check.same("game(0, 0, 0, 0, 0)", z.game(0, 0, 0, 0, 0), 0);
        Check.bound(32, "COINS do not matter, and nothing is laid");
        TrapCorner v = Check.city("sc0;c;c;p", "y:40");
        Check.same("game(0, 1, 3, 1, 0)", v.game(0, 1, 3, 1, 0), 4);
        Check.same("corner(1, 0)", v.corner(1, 0), 0);
        Check.same("person(0, 5)", v.person(0, 5), 0);
    }

    private static void rest(TrapCorner x, int person, int corner, int... want) {
        Check.same("rests(" + person + ", " + corner + ", -1)", x.rests(person, corner, -1), want.length);
        for (int i = 0; i < want.length; i++) {
            Check.same("rests(" + person + ", " + corner + ", " + i + ")", x.rests(person, corner, i), want[i]);
        }
        Check.same("rests behind the last", x.rests(person, corner, want.length), -1);
    }

    private static void rests() {
        TrapCorner x = Check.city(Check.HOME);
        Check.bound(33, "NONE: no such PERSON");
        for (int i : new int[] {-1, 3, 6, MIN, MAX}) {
            Check.same("rests(" + i + ", 0, -1)", x.rests(i, 0, -1), -1);
            Check.same("rests(" + i + ", 0, 0)", x.rests(i, 0, 0), -1);
        }
        Check.same("rests without a city", new TrapCorner().rests(0, 0, -1), -1);
        Check.bound(33, "NONE: no such CORNER");
        for (int c : new int[] {-1, 3, 5, MIN, MAX}) {
            Check.same("rests(0, " + c + ", -1)", x.rests(0, c, -1), -1);
            Check.same("rests(0, " + c + ", 0)", x.rests(0, c, 0), -1);
        }
        Check.bound(33, "NONE: no such i");
        for (int i : new int[] {-2, 1, 8, MIN, MAX}) {
            Check.same("rests(0, 0, " + i + ")", x.rests(0, 0, i), -1);
        }
        Check.bound(33, "none: 0, and no i-th");
        rest(Check.city("c;c;c;c;c;pb2", "y:40"), 0, 1);
        Check.bound(33, "the first is 0: nothing lies, by rising numbers");
        rest(Check.city("st30;c;c;c;p"), 0, 1, 0);
        Check.bound(33, "the last is 31; as good for both is a rest, too; rising");
        rest(Check.city("c;c;p", "y:40"), 0, 1, 10, 11, 20, 21, 30, 31);
        rest(Check.city("c;c;pm3", "y:m*40"), 0, 1, 30, 31);
        rest(Check.city("st30;c;c;p"), 0, 1, 0, 1);
        Check.bound(33, "neither has more by another of his own: one more is too much");
        // by falling numbers he is one shorter: he turns if nothing lies
        rest(Check.city("st30;c;c;c;pb2"), 0, 1, 1);
        rest(Check.city("st30;c;c;c;pb2r1"), 0, 1, 1);
        // TAKEN on the shorter one: 1 longer is better than 6 less
        rest(Check.city("c;c;ck1;c;c;pb4", "y:40"), 0, 4, 11, 21, 31);
        Check.bound(33, "a CORNER to which he never comes: nothing is laid");
        rest(Check.city("c;c;c;p", "y:40"), 0, 0, 0);
    }

    private static void odds() {
        TrapCorner x = Check.city(Check.HOME);
        Check.bound(34, "NONE: no such one");
        for (int i : new int[] {-1, 3, 6, MIN, MAX}) {
            Check.same("odds(" + i + ", 50)", x.odds(i, 50), -1);
        }
        Check.same("odds(0, 50) without a city", new TrapCorner().odds(0, 50), -1);
        Check.bound(34, "a chance 0 .. 100; NONE: out of bounds");
        for (int chance : new int[] {-1, 101, MIN, MAX}) {
            Check.same("odds(0, " + chance + ")", x.odds(0, chance), -1);
        }
        Check.bound(34, "0: none fails; 100: all fail");
        Check.same("odds(0, 0)", x.odds(0, 0), ALL);
        Check.same("odds(0, 100)", x.odds(0, 100), 0);
        Check.same("odds(2, 0): none takes him", x.odds(2, 0), 0);
        Check.bound(34, "every chance at one trap, and at four of them");
        TrapCorner one = Check.city("c;ck1;p", "y:40");
        TrapCorner four = Check.city("c;ck1;ck2;ck3;ck1;pb4", "y:40");
        for (int chance = 0; chance <= 100; chance++) {
            Check.same("odds(0, " + chance + ") of one", one.odds(0, chance), ALL - chance * 10000000);
            long left = 10L * chance * chance * chance * chance;
            Check.same("odds(0, " + chance + ") of four", four.odds(0, chance), ALL - left);
        }
        Check.bound(34, "a trap that would not take him does not matter");
        TrapCorner y = Check.city("c;ck1;ck2;ck1s0;c;pb4", "y:m*40");
        Check.same("odds(0, 10)", y.odds(0, 10), 900000000);
        Check.same("where he comes from", Check.city("ck1;c;p", "y:40").odds(0, 10), 0);
        Check.bound(34, "the others going ahead of him as on a DAY now");
        TrapCorner z = Check.city("c;ck1;ck1;ck1;pb3;pb3;pb3", "y:40");
        Check.same("odds(0, 10)", z.odds(0, 10), 999000000);
        Check.same("odds(1, 10)", z.odds(1, 10), 990000000);
        Check.same("odds(2, 10)", z.odds(2, 10), 900000000);
    }

    private static void oddsOfOldOnes() {
        Check.bound(34, "where he would use his CANE he goes on either way");
        TrapCorner x = Check.city("so1;c;ck1s9;ck1s9;ck1s9;pb3", "y:40");
        x.day();
        Check.same("odds(0, 0) with canes alone", x.odds(0, 0), 0);
        Check.same("odds(0, 40) with canes alone", x.odds(0, 40), 0);
        for (int c = 1; c <= 3; c++) {
            x.constable(c);
            Check.same("odds(0, 40) with the constable at " + c, x.odds(0, 40), 600000000);
            Check.same("odds(0, 0) with the constable at " + c, x.odds(0, 0), ALL);
            Check.same("odds(0, 100) with the constable at " + c, x.odds(0, 100), 0);
        }
        x.constable(0);
        Check.same("odds(0, 40) with the constable off his walk", x.odds(0, 40), 0);
        Check.bound(34, "an OLD one ahead of him springs the traps with his CANE");
        TrapCorner y = Check.city("so1;c;ck1s9;ck1s9;pb2;pb2r1", "y:40");
        y.day();
        Check.same("taken", y.log(0, 0), 3);
        y.undo();
        y.about(1);
        y.day();
        Check.same("all(9)", y.all(9), 2);
        Check.same("odds(1, 0)", y.odds(1, 0), 0);
    }

    private static void lasts() {
        Check.bound(35, "NONE: no such CORNER");
        TrapCorner x = Check.city("c;c;p");
        for (int c : new int[] {-1, 2, 5, MIN, MAX}) {
            Check.same("lasts(" + c + ")", x.lasts(c), -1);
        }
        Check.same("lasts(0) without a city", new TrapCorner().lasts(0), -1);
        Check.bound(35, "0: it is 0 now");
        Check.same("lasts(1)", Check.city("c;ck1s0;p", "y:40").lasts(1), 0);
        Check.bound(35, "in how many DAYS its SPRING is 0 first");
        for (int s = 1; s <= 9; s++) {
            Check.same("spring " + s, Check.city("so9;c;ck1s" + s + ";p", "y:40").lasts(1), s);
        }
        Check.same("the day on which it is 0 first", Check.city("c;ck1s1;p", "y:d=0|d=5?40").lasts(1), 1);
        Check.bound(35, "60 at most; NONE: not within 60");
        Check.same("on the 60th", Check.city("c;ck1s1;p", "y:d=59?40").lasts(1), 60);
        Check.same("on the 61st", Check.city("c;ck1s1;p", "y:d=60?40").lasts(1), -1);
        Check.same("never", Check.city("c;ck1s1;p", "y:0").lasts(1), -1);
        Check.bound(35, "from now on, not from DAY 0");
        TrapCorner y = Check.city("c;ck1s1;p", "y:d=60?40");
        Check.same("lasts(1) on 0", y.lasts(1), -1);
        y.day();
        Check.same("lasts(1) on 1", y.lasts(1), 60);
        Check.bound(35, "all going on: OLD ones use their CANES, WARY ones are pulled no more");
        Check.same("old by 2", Check.city("so2;c;ck1s3;p", "y:40").lasts(1), -1);
        Check.same("old by 3", Check.city("so3;c;ck1s3;p", "y:40").lasts(1), 3);
        Check.same("wary", Check.city("so9;c;ck1s3;pg4w2").lasts(1), -1);
        Check.same("count(6): apart", y.count(6), 1);
    }

    private static void yearly() {
        Check.bound(36, "NONE: no such one");
        TrapCorner x = Check.city("c;c;p");
        for (int i : new int[] {-1, 1, 6, MIN, MAX}) {
            Check.same("yearly(" + i + ")", x.yearly(i), -1);
        }
        Check.same("yearly(0) without a city", new TrapCorner().yearly(0), -1);
        Check.bound(36, "never: 0");
        Check.same("yearly(0)", x.yearly(0), 0);
        Check.bound(36, "the next 30 DAYS: the first, the 30th, not the 31st");
        Check.same("the first", Check.city("c;ck1s9;p", "y:d=0?40").yearly(0), 1);
        Check.same("the 30th", Check.city("c;ck1s9;p", "y:d=29?40").yearly(0), 1);
        Check.same("the 31st", Check.city("c;ck1s9;p", "y:d=30?40").yearly(0), 0);
        TrapCorner y = Check.city("c;ck1s9;p", "y:d=30?40");
        y.day();
        Check.same("the 31st, a day on", y.yearly(0), 1);
        Check.bound(36, "as often as the SPRING lasts, or till he is OLD");
        for (int s = 0; s <= 9; s++) {
            Check.same("spring " + s, Check.city("so9;c;ck1s" + s + ";p", "y:40").yearly(0), s);
            Check.same("old by 4, spring " + s, Check.city("so4;c;ck1s" + s + ";p", "y:40").yearly(0), Math.min(4, s));
        }
        Check.bound(36, "by several CORNERS more often than a SPRING lasts");
        Check.same("twice 9", Check.city("so9;c;ck1s9;ck1s9;pb2", "y:40").yearly(0), 9);
        TrapCorner z = Check.city("so9;c;ck1s9;ck1s9;ck1s9;ck1s9;pb4", "y:40");
        for (int c = 1; c <= 4; c++) {
            z.constable(c);
        }
        // old by nine: his cane at 1, 2 and 3, the constable at 4
        Check.same("9 at 1, then 9 at 4", z.yearly(0), 18);
        Check.bound(36, "how often, also where his TIMES stand at 99");
        TrapCorner v = Check.city("so9;c;ck1s9;p", "y:40");
        v.constable(1);
        for (int i = 0; i < 99; i++) {
            v.day();
            v.renew(1);
        }
        Check.same("times", v.person(0, 6), 99);
        Check.same("yearly(0)", v.yearly(0), 9);
    }

    private static void busiestAndStrongest() {
        Check.bound(37, "NONE: no CITY");
        for (int what = 0; what <= 10; what++) {
            Check.same("all(" + what + ")", new TrapCorner().all(what), -1);
        }
        Check.bound(37, "NONE: no such what");
        TrapCorner x = Check.city("c;c;p");
        for (int what : new int[] {-1, 11, MIN, MAX}) {
            Check.same("all(" + what + ")", x.all(what), -1);
        }
        Check.bound(37, "BUSIEST: of several the lowest");
        Check.same("0 and 1", Check.city("c;c;p;pa1b0").all(0), 0);
        Check.same("1 and 2", Check.city("c;c;c;pb2").all(0), 1);
        Check.same("all of five", Check.city("c;c;c;c;c;pa4b0;pa0b1;pa1b2;pa2b3;pa3b4").all(0), 0);
        Check.bound(37, "BUSIEST: one more is more; the last, too");
        Check.same("1", Check.city("c;c;p").all(0), 1);
        Check.same("4", Check.city("c;c;c;c;c;pa0b3;pa3b4;pa3b4").all(0), 4);
        Check.bound(37, "STRONGEST: of several the lowest");
        Check.same("all alike", Check.city("cs7;cs7;cs7;p").all(1), 0);
        Check.same("all 0", Check.city("cs0;cs0;p").all(1), 0);
        Check.same("1 and 2", Check.city("cs6;cs7;cs7;p").all(1), 1);
        Check.same("the last", Check.city("cs8;cs8;cs8;cs8;cs9;p").all(1), 4);
        Check.bound(37, "STRONGEST: as now");
        TrapCorner y = Check.city("cs8;cs8;p");
        y.renew(1);
        Check.same("all(1)", y.all(1), 1);
        y.renew(0);
        Check.same("all(1)", y.all(1), 0);
    }

    private static void wariestGreediestOldest() {
        Check.bound(37, "WARIEST: of several the lowest, as now");
        Check.same("all alike", Check.city("c;c;p;p;p").all(2), 0);
        Check.same("1 and 2", Check.city("c;c;pw0;pw9;pw9").all(2), 1);
        Check.same("the last of six", Check.city("c;c;p;p;p;p;p;pw3").all(2), 5);
        TrapCorner x = Check.city("c;ck1;pm2;p", "y:m*40");
        Check.same("all(2)", x.all(2), 0);
        x.day();
        Check.same("all(2) then", x.all(2), 1);
        Check.bound(37, "GREEDIEST: of several the lowest");
        Check.same("all alike", Check.city("c;c;p;p;p").all(3), 0);
        Check.same("1 and 2", Check.city("c;c;pg0;pg9;pg9").all(3), 1);
        Check.same("all 0", Check.city("c;c;pg0;pg0").all(3), 0);
        Check.same("the last of six", Check.city("c;c;p;p;p;p;p;pg5").all(3), 5);
        Check.bound(37, "OLDEST (most TIMES): of several the lowest");
        Check.same("nobody was taken", Check.city("c;c;p;p;p").all(4), 0);
        TrapCorner y = Check.city("so9;ck1s9;ck2s9;pm3;pm1a1b0;pm2", "y:m*40");
        y.day();
        Check.same("1 and 2 once", y.all(4), 1);
        y.crumb(0, 0);
        y.day();
        Check.same("2 twice", y.all(4), 2);
    }

    private static void honestOldEmpty() {
        Check.bound(37, "HONEST: on whose WALK no CRUMB is their MOTIVE: all, none");
        Check.same("no crumbs", Check.city("c;c;p;p;p;p;p;p").all(5), 63);
        Check.same("other crumbs", Check.city("ck2;ck3;p;pa1b0").all(5), 3);
        Check.same("each by his own", Check.city("ck2;ck1;p;pm2a1b0").all(5), 0);
        Check.bound(37, "HONEST: not where he comes from, but where he goes to, and a SPRING of 0 does not matter");
        Check.same("where he comes from", Check.city("ck1;c;p").all(5), 1);
        Check.same("where he goes to", Check.city("c;ck1s0;p").all(5), 0);
        Check.bound(37, "HONEST: by the WAY that he goes now");
        TrapCorner x = Check.city("c;c;ck1;p");
        Check.same("rising", x.all(5), 1);
        x.about(0);
        Check.same("falling", x.all(5), 0);
        Check.bound(37, "OLD: TIMES as many as told, one less is not");
        TrapCorner y = Check.city("so2;c;ck1s9;p;p", "y:40");
        Check.same("none", y.all(6), 0);
        y.day();
        Check.same("once", y.all(6), 0);
        y.day();
        Check.same("twice", y.all(6), 1);
        TrapCorner six = Check.city("so1;ck1;ck1;ck1;ck1;ck1;pa4b0;pa0b1;pa1b2;pa2b3;pa3b4;pa3b4", "y:40");
        six.day();
        Check.same("five of six", six.all(6), 31);
        Check.bound(37, "EMPTY: all, none");
        Check.same("all of five", Check.city("c;c;c;c;c;p").all(7), 31);
        Check.same("none", Check.city("ck1;ck2;ck3;ck1;ck2;p").all(7), 0);
        Check.same("the last", Check.city("ck1;ck2;ck3;ck1;c;p").all(7), 16);
        Check.same("a spring of 0 does not matter", Check.city("ck1s0;cs0;p").all(7), 2);
    }

    private static void takenCanesLaid() {
        Check.bound(37, "TAKEN on a DAY now: none, as many as there are traps");
        Check.same("none", Check.city("c;c;p", "y:40").all(8), 0);
        Check.same("five of six", Check.city("ck1;ck1;ck1;ck1;ck1;pa4b0;pa0b1;pa1b2;pa2b3;pa3b4;pa3b4", "y:40").all(8), 31);
        Check.same("the sixth", Check.city("c;ck3;p;p;p;p;p;pm3", "y:m*40").all(8), 32);
        Check.bound(37, "CANES on a DAY now: none, one at each CORNER");
        TrapCorner x = Check.city("so1;ck1s9;ck1s9;ck1s9;ck1s9;ck1s9;pa0b4;pa4b0", "y:40");
        Check.same("none", x.all(9), 0);
        x.day();
        Check.same("five", x.all(9), 5);
        Check.same("count(6)", x.count(6), 1);
        x.constable(4);
        // 1 to 3 by the first, who is taken at 4, 0 by the second
        Check.same("four", x.all(9), 4);
        Check.same("taken", x.all(8), 1);
        Check.bound(37, "LAID: how many unlike ones: 0 to 3");
        Check.same("none", Check.city("c;c;p").all(10), 0);
        Check.same("two alike", Check.city("ck3;ck3;p").all(10), 1);
        Check.same("two", Check.city("ck3;ck1;ck3;p").all(10), 2);
        Check.same("three of five", Check.city("ck3;ck1;ck2;ck3;ck1;p").all(10), 3);
        Check.same("no crumb is none", Check.city("ck3;ck1;ck2;c;p").all(10), 3);
    }

    private static void kinds() {
        Check.bound(38, "NONE: no CITY");
        Check.same("kinds(1)", new TrapCorner().kinds(1), -1);
        Check.bound(38, "NONE: no such MOTIVE");
        TrapCorner x = Check.city("c;c;pm1;pm3;pm1;pm1;pm1;pm3");
        for (int m : new int[] {0, 4, -1, MIN, MAX}) {
            Check.same("kinds(" + m + ")", x.kinds(m), -1);
        }
        Check.bound(38, "1 .. 3; nobody: 0");
        Check.same("kinds(1)", x.kinds(1), 29);
        Check.same("kinds(2)", x.kinds(2), 0);
        Check.same("kinds(3)", x.kinds(3), 34);
        Check.bound(38, "all six: 63");
        Check.same("kinds(3)", Check.city("c;c;pm3;pm3;pm3;pm3;pm3;pm3").kinds(3), 63);
    }

    private static void needs() {
        TrapCorner x = Check.city(Check.HOME);
        Check.bound(39, "NONE: no such one");
        for (int i : new int[] {-1, 3, 6, MIN, MAX}) {
            Check.same("needs(" + i + ", 0)", x.needs(i, 0), -1);
        }
        Check.same("needs(0, 0) without a city", new TrapCorner().needs(0, 0), -1);
        Check.bound(39, "NONE: no such CORNER");
        for (int c : new int[] {-1, 3, 5, MIN, MAX}) {
            Check.same("needs(0, " + c + ")", x.needs(0, c), -1);
        }
        Check.bound(39, "the least SPRING, 0 .. 9; NONE: by none");
        for (int t = 1; t <= 30; t++) {
            // wary 0, another crumb: the spring itself
            int want = t <= 9 ? t : -1;
            Check.same("takes " + t, Check.city("st" + t + ";cs3;c;pw0").needs(0, 0), want);
        }
        Check.same("0", Check.city("ck1s9;c;pg4w0").needs(0, 0), 0);
        Check.same("1", Check.city("ck1s9;c;pg4w1").needs(0, 0), 1);
        Check.same("9", Check.city("st27;ck1s0;c;pg9w0").needs(0, 0), 9);
        Check.same("by none", Check.city("st28;ck1s0;c;pg9w0").needs(0, 0), -1);
        Check.bound(39, "the least one by a LAW by which a higher one is not enough");
        Check.same("4 and 6", Check.city("c;c;p", "y:s=4|s=6?40").needs(0, 0), 4);
        Check.same("9 alone", Check.city("c;c;p", "y:s=9?40").needs(0, 0), 9);
        Check.same("0 alone", Check.city("c;c;p", "y:s=0?40").needs(0, 0), 0);
        Check.same("10 is none", Check.city("c;c;p", "y:s>9?40").needs(0, 0), -1);
        Check.bound(39, "as WARY, as often TAKEN, on the DAY as now");
        TrapCorner y = Check.city("so9;c;ck1s9;pg4w0");
        Check.same("needs(0, 1)", y.needs(0, 1), 0);
        y.day();
        Check.same("needs(0, 1) then", y.needs(0, 1), 1);
        TrapCorner z = Check.city("so9;c;ck1s9;p", "y:s+n+d+7");
        Check.same("needs(0, 1)", z.needs(0, 1), 1);
        z.day();
        Check.same("needs(0, 1) then", z.needs(0, 1), 0);
    }

    private static void shares() {
        TrapCorner x = Check.city("cs3;cs3;cs1;p");
        Check.bound(40, "NONE: no such CORNER");
        for (int c : new int[] {-1, 3, 5, MIN, MAX}) {
            Check.same("shares(" + c + ", 9)", x.shares(c, 9), -1);
        }
        Check.same("shares(0, 9) without a city", new TrapCorner().shares(0, 9), -1);
        Check.bound(40, "c 0 .. 999; NONE: out of bounds");
        for (int c : new int[] {-1, 1000, MIN, MAX}) {
            Check.same("shares(0, " + c + ")", x.shares(0, c), -1);
        }
        Check.same("shares(0, 0)", x.shares(0, 0), 0);
        Check.same("shares(0, 999)", x.shares(0, 999), 428);
        Check.same("shares(2, 999)", x.shares(2, 999), 142);
        Check.bound(40, "cut");
        Check.same("shares(2, 6)", x.shares(2, 6), 0);
        Check.same("shares(2, 7)", x.shares(2, 7), 1);
        Check.same("shares(2, 13)", x.shares(2, 13), 1);
        Check.same("shares(0, 2)", x.shares(0, 2), 0);
        Check.same("shares(0, 3)", x.shares(0, 3), 1);
        Check.bound(40, "none: 0");
        TrapCorner y = Check.city("cs0;cs0;p");
        Check.same("shares(0, 999)", y.shares(0, 999), 0);
        Check.same("shares(1, 0)", y.shares(1, 0), 0);
        Check.same("shares(0, 1000)", y.shares(0, 1000), -1);
        Check.bound(40, "its SPRING of 0 among others: 0; the only one: all");
        TrapCorner z = Check.city("cs0;cs4;p");
        Check.same("shares(0, 999)", z.shares(0, 999), 0);
        Check.same("shares(1, 999)", z.shares(1, 999), 999);
        Check.bound(40, "five CORNERS of nine");
        Check.same("shares(4, 999)", Check.city("cs9;cs9;cs9;cs9;cs9;p").shares(4, 999), 199);
    }
}
