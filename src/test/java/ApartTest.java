/** Promises 21 and 23 to 36: what would be, told apart; no such call changes anything. */
public final class ApartTest {
    public static void main(String[] args) {
        promise21run();
        promise23pulled();
        promise23laws();
        promise23conditions();
        promise24caught();
        promise25baits();
        promise25choices();
        promise26seen();
        promise27moves();
        promise28ask();
        promise29safe();
        promise30passes();
        promise31walk();
        promise32game();
        promise33rests();
        promise34odds();
        promise34caneAndConstable();
        promise35lasts();
        promise36yearly();
        nothingChanges();
        nothingIsStale();
        Check.close();
    }

    private static void promise21run() {
        TrapCorner x = Check.city(Check.HOME);
        Check.tell(x, 2, "d;k00;s1;r0;d;k04;d");
        Check.tell(x, 2, "d;d");
        Check.tell(x, 2, "r3;d");
        // two on the first day; then no crumb at 0 and a better spring at 1, by which the second is taken again
        Check.same("run(0, 0)", x.run(0, 0), 5);
        Check.same("run(0, 1)", x.run(0, 1), 3);
        Check.same("run(1, 0)", x.run(1, 0), -1);
        Check.same("run(1, 1)", x.run(1, 1), 3);
        Check.same("run(2, 0)", x.run(2, 0), 0);
        Check.same("run(2, 1)", x.run(2, 1), 0);
        Check.same("run(3, 0)", x.run(3, 0), Check.HIDDEN);
        Check.same("run(-1, 0)", x.run(-1, 0), Check.HIDDEN);
        Check.same("run(0, 2)", x.run(0, 2), Check.HIDDEN);
        Check.same("run(0, -1)", x.run(0, -1), Check.HIDDEN);
        for (int wild : Check.WILD) {
            Check.same("run(wild, 0)", x.run(wild, 0), Check.HIDDEN);
            Check.same("run(0, wild)", x.run(0, wild), Check.HIDDEN);
        }
        TrapCorner y = new TrapCorner();
        Check.tell(y, 2, "d");
        Check.same("run(0, 0) without a city", y.run(0, 0), Check.HIDDEN);
        runs("sc1;ck1;c;p", "k00;k02", 1);
        runs("sc2;ck1;c;p", "k00;k02;k03", 2);
        runs("sc2;ck1;c;p", "s0;s0;s0", 2);
        runs("sc9;ck1s8;c;p", "s0;s0", 1);
        runs("ck1;c;p", "k01", 0);
        runs("ck1;c;p", "k21", 0);
        runs("ck1;c;p", "s2", 0);
        runs("ck1;c;p", "r1", 0);
        runs("ck1;c;p", "r0;r0;k00;d;d;d;d;d;d;d;d;d;d;d;d;d", -1);
        // a coin that one brings buys what could not be bought
        runs("sc0;c;ck1s5;pg9", "s0", 0);
        runs("sc0;c;ck1s5;pg9", "d;s0;s0", 2);
    }

    private static void runs(String city, String plan, int want) {
        TrapCorner x = Check.city(city);
        Check.tell(x, 2, plan);
        Check.same("run(0, 0) of " + plan + " in " + city, x.run(0, 0), want);
        Check.same("perform(0) of it", x.perform(0), want == -1 ? plan.split(";").length : want);
    }

    private static void promise23pulled() {
        TrapCorner x = Check.city(Check.HOME);
        int[][] pulls = {{11, 2, 7}, {4, 9, 8}, {5, 4, 9}};
        for (int i = 0; i < 3; i++) {
            for (int c = 0; c < 3; c++) {
                Check.same("pulled(" + i + ", " + c + ")", x.pulled(i, c), pulls[i][c]);
            }
        }
        Check.same("pulled(3, 0)", x.pulled(3, 0), -1);
        Check.same("pulled(0, 3)", x.pulled(0, 3), -1);
        Check.same("pulled(-1, 0)", x.pulled(-1, 0), -1);
        Check.same("pulled(0, -1)", x.pulled(0, -1), -1);
        for (int wild : Check.WILD) {
            Check.same("pulled(wild, 0)", x.pulled(wild, 0), -1);
            Check.same("pulled(0, wild)", x.pulled(0, wild), -1);
        }
        Check.same("pulled, not below 0", Check.city("cs0;c;pw9").pulled(0, 0), 0);
        Check.same("pulled with greed 9", Check.city("ck3s9;c;pm3g9w0").pulled(0, 0), 27);
    }

    private static int pullBy(String law) {
        return Check.city("ck1s5;c;pm1g4w2a1b0", law).pulled(0, 0);
    }

    private static void sums(String law, int want) {
        Check.same("pulled by " + law, pullBy(law), want);
    }

    private static void promise23laws() {
        sums("y:m", 1);
        sums("y:g", 4);
        sums("y:w", 2);
        sums("y:s", 5);
        sums("y:n+7", 7);
        sums("y:d+7", 7);
        sums("y:40", 40);
        sums("y:41", 40);
        sums("y:0-1", 0);
        sums("y:0007", 7);
        sums("y:3+4*2", 11);
        sums("y:3*4+2", 14);
        sums("y:[3+4]*2", 14);
        sums("y:10-3-2", 5);
        sums("y:10-[3-2]", 9);
        sums("y:24/4/2", 3);
        sums("y:24/4*2", 12);
        sums("y:2*7/4", 3);
        sums("y:20-12/4", 17);
        sums("y:9-2*3+1", 4);
        sums("y:7/2", 3);
        sums("y:[1-8]/2+10", 7);
        sums("y:8/[1-4]+10", 8);
        sums("y:5/0+1", 1);
        sums("y:5/[m-1]+1", 1);
        sums("y:9999*9999/1000/100", 10);
        sums("y:[0-9999]*9999/9999+101", 1);
        sums("y:[9999*100+9999-999*1000]/100", 10);
        sums("y:[0-9999*100-9999+999*1000]/100+20", 10);
        sums("y:1000*1000-999*1000-990", 10);
        sums("y:1000*1000+1-999*1000-999", 1);
        sums("y:0-1000*1000-1+999*1000+1001", 1);
        sums("y:1001*1000-999*1000-999", 1);
        sums("y:[[[[[[m+1]*2]+1]*2]+1]*2]", 22);
        sums(" y : g * [ s - w ] + 1 ", 13);
        TrapCorner x = Check.city("so9;c;ck1s5;pm1g9w2", "y:10*n+d+w+s*0");
        Check.same("on the first day", x.pulled(0, 1), 2);
        Check.same("day()", x.day(), 0);
        Check.same("on the second", x.pulled(0, 1), 3);
        for (int i = 0; i < 5; i++) {
            x.day();
        }
        // taken on the day on which d is 6
        Check.same("day()", x.day(), 1);
        Check.same("day 7, once taken, wary 3", x.pulled(0, 1), 20);
        Check.same("m is 0 for another crumb", Check.city("ck2;c;p", "y:m+3").pulled(0, 0), 3);
        Check.same("m is 0 for no crumb", Check.city("ck0;c;p", "y:m+3").pulled(0, 0), 3);
    }

    private static void promise23conditions() {
        sums("y:m=1?5;y:9", 5);
        sums("y:m=0?5;y:9", 9);
        sums("y:m=0?5", 0);
        sums("y:m=0?5;y:m=0?6", 0);
        sums("y:m=0?5;y:m=1?6;y:7", 6);
        sums("y:3;y:4", 3);
        sums("y:g>4?5;y:9", 9);
        sums("y:g>3?5;y:9", 5);
        sums("y:g<4?5;y:9", 9);
        sums("y:g<5?5;y:9", 5);
        sums("y:g=4?5;y:9", 5);
        sums("y:g+1=s?5;y:9", 5);
        sums("y:1=1|1=1&1=2?5;y:9", 5);
        sums("y:1=2&1=1|1=1?5;y:9", 5);
        sums("y:1=2|1=2|1=1?5;y:9", 5);
        sums("y:1=1&1=1&1=2?5;y:9", 9);
        sums("y:1=2&1=2|1=2&1=1|1=1&1=1?5;y:9", 5);
        sums("y:(1=1|1=1)&1=2?5;y:9", 9);
        sums("y:1=2&(1=1|1=1)?5;y:9", 9);
        sums("y:!1=2&1=2?5;y:9", 9);
        sums("y:!(1=2&1=2)?5;y:9", 5);
        sums("y:!1=1|1=1?5;y:9", 5);
        sums("y:!!1=1?5;y:9", 5);
        sums("y:!!!1=1?5;y:9", 9);
        sums("y:[2]=2?5;y:9", 5);
        sums("y:(((((([1+1]*2=4)))))?5;y:9".replace("((((((", "((((("), 5);
        sums("y:1=1|1=2&1=2|1=2?5;y:9", 5);
        sums("y:0-5<0-4?5;y:9", 5);
    }

    private static void promise24caught() {
        TrapCorner x = Check.city(Check.HOME);
        Check.same("caught(0)", x.caught(0), 0);
        Check.same("caught(1)", x.caught(1), 1);
        Check.same("caught(2)", x.caught(2), -1);
        Check.same("caught(3)", x.caught(3), -1);
        Check.same("caught(-1)", x.caught(-1), -1);
        for (int wild : Check.WILD) {
            Check.same("caught(wild)", x.caught(wild), -1);
        }
        Check.same("caught at the first", Check.city("c;ck1;ck1;ck1;pb3", "y:40").caught(0), 1);
        Check.same("caught where he comes from", Check.city("ck1;c;c;p", "y:40").caught(0), -1);
        Check.same("caught the other way", Check.city("c;ck1;ck1;ck1;pb1r1", "y:40").caught(0), 3);
    }

    private static void baits(TrapCorner x, int people, int row, int others) {
        Check.same("baits(" + people + ", 0)", x.baits(people, 0), row);
        Check.same("baits(" + people + ", 1)", x.baits(people, 1), others);
    }

    private static void promise25baits() {
        TrapCorner x = Check.city(Check.HOME);
        baits(x, 0, 0, 0);
        // the first by a crumb 1 at 2 or 0; the second by a crumb 2 at 2 or 1; the third by none
        baits(x, 1, 1, 0);
        baits(x, 2, 2, 0);
        baits(x, 3, 21, 0);
        baits(x, 4, -1, -1);
        baits(x, 7, -1, -1);
        baits(x, 8, -1, -1);
        baits(x, -1, -1, -1);
        baits(x, Integer.MAX_VALUE, -1, -1);
        baits(x, Integer.MIN_VALUE, -1, -1);
        Check.same("baits(0, 2)", x.baits(0, 2), -1);
        Check.same("baits(0, -1)", x.baits(0, -1), -1);
        Check.same("baits without a city", new TrapCorner().baits(0, 0), -1);
    }

    private static void promise25choices() {
        // both walk by 1 and 2; 1 takes the first, whatever lies there
        TrapCorner x = Check.city("c;c;c;pb2;pb2", "y:40");
        baits(x, 1, 1, 0);
        baits(x, 3, 11, 0);
        // the second can be taken alone by none: the first is ahead of him everywhere
        baits(x, 2, 11, 1);
        TrapCorner y = Check.city("c;cs9;cs9;pm1g9w0b1;pm2g9w0b2", "y:m*40");
        baits(y, 1, 10, 0);
        baits(y, 2, 2, 0);
        baits(y, 3, 12, 0);
        // five corners, the first the highest digit
        TrapCorner z = Check.city("cs9;c;c;c;c;pm3g9w0a4b0", "y:m*40");
        baits(z, 1, 30000, 0);
        // an old one is taken where the constable is alone
        TrapCorner w = Check.city("so1;ck1s9;ck1s9;cs9;pm1g9w0a2b1");
        w.day();
        baits(w, 1, -1, -1);
        w.constable(1);
        baits(w, 1, 10, 0);
        // the third comes to 1 alone, and the second is always there ahead of him
        TrapCorner v = Check.city("c;c;c;c;pa3b0;pa0b2;pa0b1", "y:40");
        baits(v, 2, 10, 0);
        baits(v, 3, 1010, 0);
        baits(v, 4, -1, -1);
        // the last of three on one walk is taken behind the others alone
        TrapCorner u = Check.city("c;c;c;c;pb3;pb3;pb3", "y:40");
        baits(u, 4, 111, 2);
        baits(u, 5, 111, 1);
        baits(u, 1, 1, 0);
        // a higher row, if by it fewer others are taken: by 11 one is, by 100 none
        baits(Check.city("c;c;c;c;pa1b3;pa0b3", "y:40"), 2, 100, 0);
        // every kind of crumb at every corner
        for (int c = 0; c < 5; c++) {
            for (int m = 1; m <= 3; m++) {
                int row = m;
                for (int i = c; i < 4; i++) {
                    row *= 10;
                }
                baits(Check.city("c;c;c;c;c;pm" + m + "a" + (c + 4) % 5 + "b" + c, "y:m*40"), 1, row, 0);
            }
        }
        // coins do not matter
        baits(Check.city("sc0;c;cs9;pg9w0"), 1, 1, 0);
    }

    private static void promise26seen() {
        TrapCorner x = Check.city(Check.HOME);
        Check.same("seen(3, ..)", x.seen(3, 1, 1, true), -1);
        Check.same("seen(-1, ..)", x.seen(-1, 1, 1, true), -1);
        Check.same("seen with spring 0", x.seen(0, 0, 1, true), -1);
        Check.same("seen with spring 10", x.seen(0, 10, 1, true), -1);
        Check.same("seen with crumb 0", x.seen(0, 1, 0, true), -1);
        Check.same("seen with crumb 4", x.seen(0, 1, 4, true), -1);
        for (int wild : Check.WILD) {
            Check.same("seen(wild, 1, 1)", x.seen(wild, 1, 1, true), -1);
            Check.same("seen(0, 1, wild)", x.seen(0, 1, wild, true), -1);
        }
        Check.same("count(10)", x.count(10), 0);
        for (int i = 1; i <= 10; i++) {
            Check.same("seen", x.seen(i % 3, 1 + i % 9, 1 + i % 3, i % 2 == 0), i);
        }
        Check.same("an eleventh", x.seen(0, 1, 1, true), -1);
        Check.same("count(10)", x.count(10), 10);
        Check.same("count(12): no act", x.count(12), 0);
        Check.same("seen without a city", new TrapCorner().seen(0, 1, 1, true), -1);
    }

    private static void promise27moves() {
        TrapCorner x = Check.city(Check.HOME);
        Check.same("moves(0, -1) with nothing seen", x.moves(0, -1), 30);
        for (int i = 0; i < 30; i++) {
            Check.same("moves(0, " + i + ")", x.moves(0, i), 10 + i);
        }
        Check.same("moves(0, 30)", x.moves(0, 30), -1);
        Check.same("moves(0, -2)", x.moves(0, -2), -1);
        Check.same("moves(3, -1)", x.moves(3, -1), -1);
        Check.same("moves(-1, -1)", x.moves(-1, -1), -1);
        for (int wild : Check.WILD) {
            Check.same("moves(wild, -1)", x.moves(wild, -1), -1);
        }
        Check.same("moves(0, MAX)", x.moves(0, Integer.MAX_VALUE), -1);
        Check.same("moves(0, MIN)", x.moves(0, Integer.MIN_VALUE), -1);
        // told wary 2: by spring 5 and his crumb greed 3 takes him, as he grows wary it is still so
        x.day();
        x.seen(0, 5, 1, true);
        Check.same("moves(0, -1)", x.moves(0, -1), 7);
        Check.same("moves(0, 0)", x.moves(0, 0), 13);
        Check.same("moves(0, 6)", x.moves(0, 6), 19);
        Check.same("moves(0, 7)", x.moves(0, 7), -1);
        Check.same("moves(1, -1): of another nothing was seen", x.moves(1, -1), 30);
        x.seen(0, 2, 1, false);
        // 2 g + 2 - 2 < 8
        Check.same("moves(0, -1)", x.moves(0, -1), 1);
        Check.same("moves(0, 0)", x.moves(0, 0), 13);
        x.seen(1, 9, 2, false);
        // wary 1: others than 2 by 8, so all of 2 and the other two fall away but none is left
        Check.same("moves(1, -1)", x.moves(1, -1), 0);
        Check.same("moves(1, 0)", x.moves(1, 0), -1);
        x.seen(2, 7, 3, true);
        // wary 0: 7 and twice greed for 3
        Check.same("moves(2, -1)", x.moves(2, -1), 9);
        Check.same("moves(2, 0)", x.moves(2, 0), 31);
        // by a law: day 0, never taken, whatever is now
        Check.tell(x, 1, "y:d=0&n=0&m=1?g*2;y:40");
        x.law(0);
        Check.same("moves(2, -1) by a law", x.moves(2, -1), 26);
        Check.same("moves(2, 20)", x.moves(2, 20), 34);
        x.law(-1);
        Check.same("moves(2, -1) by none", x.moves(2, -1), 9);
    }

    private static void promise28ask() {
        TrapCorner x = Check.city(Check.HOME);
        // all 30: for each crumb 10 are his; by spring 3, wary 2, greed 4 and more takes him: 6 and 24
        Check.same("ask(0, 3)", x.ask(0, 3), 1);
        Check.same("ask(0, 0)", x.ask(0, 0), -1);
        Check.same("ask(0, 10)", x.ask(0, 10), -1);
        Check.same("ask(0, 9)", x.ask(0, 9), 1);
        Check.same("ask(3, 3)", x.ask(3, 3), -1);
        Check.same("ask(-1, 3)", x.ask(-1, 3), -1);
        for (int wild : Check.WILD) {
            Check.same("ask(wild, 3)", x.ask(wild, 3), -1);
            Check.same("ask(0, -wild)", x.ask(0, wild == 7 ? 10 : wild), -1);
        }
        x.seen(0, 9, 1, false);
        // 2 g + 9 - 2 < 8 if 1 is his motive: greed 0 alone is left of 1, all of 2 and 3
        Check.same("moves(0, -1)", x.moves(0, -1), 21);
        Check.same("ask(0, 3)", x.ask(0, 3), 2);
        x.seen(0, 6, 2, false);
        // 2 g + 4 < 8: greed 0 and 1 are left of 2; all ten of 3
        Check.same("moves(0, -1)", x.moves(0, -1), 13);
        Check.same("ask(0, 3)", x.ask(0, 3), 3);
        x.seen(0, 9, 3, true);
        x.seen(0, 1, 3, true);
        // 2 g - 1 >= 8: greed 5 and more of 3: all are taken by 3, none by 1 or 2: all as far apart
        Check.same("moves(0, -1)", x.moves(0, -1), 5);
        Check.same("ask(0, 1): of several the lowest", x.ask(0, 1), 1);
        x.seen(0, 9, 3, false);
        Check.same("ask(0, 3): nothing fits", x.ask(0, 3), -1);
        Check.same("ask(1, 3): of another", x.ask(1, 3), 1);
        // {10, 20, 21, 22, 30 .. 39}: by 7 none, 2 and 9 of 14 are taken
        TrapCorner z = Check.city("c;c;pw0");
        z.seen(0, 7, 1, false);
        z.seen(0, 3, 2, false);
        Check.same("moves(0, -1)", z.moves(0, -1), 14);
        Check.same("ask(0, 7)", z.ask(0, 7), 3);
        // {20, 21, 22, 30, 31}: by 9 none, 3 and 2 of 5
        TrapCorner w = Check.city("c;c;p", "y:m=1?g+s");
        w.seen(0, 9, 1, false);
        w.seen(0, 5, 2, false);
        w.seen(0, 6, 3, false);
        Check.same("moves(0, -1)", w.moves(0, -1), 5);
        Check.same("ask(0, 9)", w.ask(0, 9), 2);
        // told wary counts, not what it is now
        TrapCorner y = Check.city("so9;c;ck1s9;pg9w0");
        y.seen(0, 9, 2, true);
        Check.same("moves(0, -1)", y.moves(0, -1), 30);
        y.day();
        y.day();
        Check.same("moves(0, -1) when he is more wary", y.moves(0, -1), 30);
        Check.same("ask(0, 7)", y.ask(0, 7), 1);
    }

    private static void promise29safe() {
        TrapCorner x = Check.city(Check.HOME);
        Check.same("safe(0): the other way no trap takes him", x.safe(0), 1);
        Check.same("safe(1)", x.safe(1), 1);
        Check.same("safe(2): both, the shorter", x.safe(2), 1);
        Check.same("safe(3)", x.safe(3), -1);
        Check.same("safe(-1)", x.safe(-1), -1);
        for (int wild : Check.WILD) {
            Check.same("safe(wild)", x.safe(wild), -1);
        }
        Check.same("safe rising", Check.city("c;c;c;ck1;pb2r1", "y:40").safe(0), 0);
        Check.same("safe falling", Check.city("c;ck1;c;c;pb2", "y:40").safe(0), 1);
        Check.same("neither, falling is shorter", Check.city("c;c;c;ck1;pb3", "y:40").safe(0), 1);
        Check.same("neither, rising is shorter", Check.city("c;ck1;c;c;pb1", "y:40").safe(0), 0);
        Check.same("both, as long", Check.city("c;c;pr1").safe(0), 0);
        Check.same("neither, as long", Check.city("c;ck1;c;ck1;pb2r1", "y:40").safe(0), 0);
        Check.same("safe behind another", Check.city("c;ck1;ck1;pb1;pb2", "y:40").safe(1), 1);
        Check.same("safe behind one who springs it", Check.city("c;ck1;c;ck1;pb1;pb2", "y:40").safe(1), 0);
    }

    private static void promise30passes() {
        TrapCorner x = Check.city(Check.HOME);
        Check.same("passes(0)", x.passes(0), 1);
        Check.same("passes(1)", x.passes(1), 6);
        Check.same("passes(2)", x.passes(2), 3);
        x.about(2);
        Check.same("passes(0) when the third has turned", x.passes(0), 5);
        Check.same("passes(1)", x.passes(1), 6);
        Check.same("passes(3)", x.passes(3), -1);
        Check.same("passes(-1)", x.passes(-1), -1);
        for (int wild : Check.WILD) {
            Check.same("passes(wild)", x.passes(wild), -1);
        }
        Check.same("passes(0) without a city", new TrapCorner().passes(0), -1);
    }

    private static void promise31walk() {
        TrapCorner x = Check.city("c;c;c;c;c;pa1b4;pa1b4r1;pa4b1;pa4b1r1;pa0b4r1");
        int[] walks = {3, 2, 2, 3, 1};
        for (int i = 0; i < walks.length; i++) {
            Check.same("walk(" + i + ")", x.walk(i), walks[i]);
        }
        Check.same("walk(5)", x.walk(5), -1);
        Check.same("walk(-1)", x.walk(-1), -1);
        for (int wild : Check.WILD) {
            Check.same("walk(wild)", x.walk(wild), -1);
        }
        x.about(0);
        Check.same("walk(0) when he has turned", x.walk(0), 2);
    }

    private static void promise32game() {
        TrapCorner x = Check.city(Check.HOME);
        // by the way that falls he comes to 0 at once, by the other to 2 and 0
        int[][] baiter = {{0, 0}, {4, 4}, {-2, -2}, {-2, -2}};
        int[][] goer = {{-2, -1}, {-8, -7}, {-2, -1}, {-2, -1}};
        for (int k = 0; k < 4; k++) {
            for (int y = 0; y < 2; y++) {
                Check.same("game(0, 0, " + k + ", " + y + ", 0)", x.game(0, 0, k, y, 0), baiter[k][y]);
                Check.same("game(0, 0, " + k + ", " + y + ", 1)", x.game(0, 0, k, y, 1), goer[k][y]);
            }
        }
        // taken at 0, though the game is of 2
        Check.same("game(0, 2, 0, 0, 0)", x.game(0, 2, 0, 0, 0), 0);
        Check.same("game(0, 2, 0, 0, 1)", x.game(0, 2, 0, 0, 1), -8);
        Check.same("game(0, 2, 1, 0, 0)", x.game(0, 2, 1, 0, 0), 4);
        // with a crumb of 2 at 2 the second is ahead of the third there
        Check.same("game(2, 2, 2, 0, 0)", x.game(2, 2, 2, 0, 0), -2);
        int[][] refused = {{3, 0, 0, 0, 0}, {-1, 0, 0, 0, 0}, {0, 3, 0, 0, 0}, {0, -1, 0, 0, 0}, {0, 0, 4, 0, 0},
            {0, 0, -1, 0, 0}, {0, 0, 0, 2, 0}, {0, 0, 0, -1, 0}, {0, 0, 0, 0, 2}, {0, 0, 0, 0, -1}};
        for (int[] a : refused) {
            Check.same("game refused", x.game(a[0], a[1], a[2], a[3], a[4]), Check.HIDDEN);
        }
        for (int wild : Check.WILD) {
            Check.same("game(wild, ..)", x.game(wild, 0, 0, 0, 0), Check.HIDDEN);
            Check.same("game(0, wild, ..)", x.game(0, wild, 0, 0, 0), Check.HIDDEN);
            Check.same("game(0, 0, wild, ..)", x.game(0, 0, wild, 0, 0), Check.HIDDEN);
            Check.same("game(0, 0, 0, wild, ..)", x.game(0, 0, 0, wild, 0), Check.HIDDEN);
            Check.same("game(0, 0, 0, 0, wild)", x.game(0, 0, 0, 0, wild), Check.HIDDEN);
        }
    }

    private static void rests(TrapCorner x, int person, int corner, int... want) {
        Check.same("rests(" + person + ", " + corner + ", -1)", x.rests(person, corner, -1), want.length);
        for (int i = 0; i < want.length; i++) {
            Check.same("rests(" + person + ", " + corner + ", " + i + ")", x.rests(person, corner, i), want[i]);
        }
        Check.same("rests behind the last", x.rests(person, corner, want.length), -1);
    }

    private static void promise33rests() {
        TrapCorner x = Check.city(Check.HOME);
        rests(x, 0, 0, 11);
        // two corners and no pull: any way, no crumb
        rests(Check.city("st30;c;c;p"), 0, 1, 0, 1);
        // two corners, any crumb takes him both ways: as good for both
        rests(Check.city("c;c;p", "y:40"), 0, 1, 10, 11, 20, 21, 30, 31);
        // he flees round the corner, the baiter lays nothing then; he comes back then: no rest
        rests(Check.city("c;c;c;pb2", "y:40"), 0, 1, 1);
        rests(Check.city("c;c;c;pb2r1", "y:40"), 0, 1, 1);
        // one whom the third crumb alone pulls
        rests(Check.city("c;c;pm3", "y:m*40"), 0, 1, 30, 31);
        rests(Check.city("c;c;pm1", "y:m*40"), 0, 1, 10, 11);
        // by 1 is the shorter way: with nothing there he goes it, with a crumb he flees: none rests
        rests(Check.city("c;c;c;c;c;pb2", "y:40"), 0, 1);
        for (int wild : Check.WILD) {
            Check.same("rests(wild, 0, -1)", x.rests(wild, 0, -1), -1);
            Check.same("rests(0, wild, -1)", x.rests(0, wild, -1), -1);
            Check.same("rests(0, 0, wild)", x.rests(0, 0, wild), -1);
        }
        Check.same("rests(3, 0, -1)", x.rests(3, 0, -1), -1);
        Check.same("rests(0, 3, -1)", x.rests(0, 3, -1), -1);
        Check.same("rests(-1, 0, -1)", x.rests(-1, 0, -1), -1);
        Check.same("rests(0, -1, -1)", x.rests(0, -1, -1), -1);
    }

    private static void promise34odds() {
        TrapCorner x = Check.city(Check.HOME);
        Check.same("odds(0, 50)", x.odds(0, 50), 500000000);
        Check.same("odds(0, 0)", x.odds(0, 0), 1000000000);
        Check.same("odds(0, 100)", x.odds(0, 100), 0);
        Check.same("odds(2, 0): the trap was sprung ahead of him", x.odds(2, 0), 0);
        Check.same("odds(0, 101)", x.odds(0, 101), -1);
        Check.same("odds(0, -1)", x.odds(0, -1), -1);
        Check.same("odds(3, 0)", x.odds(3, 0), -1);
        Check.same("odds(-1, 0)", x.odds(-1, 0), -1);
        for (int wild : Check.WILD) {
            Check.same("odds(wild, 0)", x.odds(wild, 0), -1);
        }
        Check.same("odds(0, MAX)", x.odds(0, Integer.MAX_VALUE), -1);
        // four traps on his walk
        TrapCorner y = Check.city("c;ck1;ck2;ck3;ck1;pb4", "y:40");
        Check.same("odds(0, 50)", y.odds(0, 50), 937500000);
        Check.same("odds(0, 99)", y.odds(0, 99), 1000000000 - 960596010);
        Check.same("odds(0, 7)", y.odds(0, 7), 1000000000 - 24010);
        // one that does not pull him, one without a spring
        TrapCorner z = Check.city("c;ck1;ck2s0;ck3;ck1;pb4m1g9w0", "y:m*40");
        Check.same("odds(0, 10)", z.odds(0, 10), 990000000);
        // the first is taken at 1, so 2 alone is left for the second
        TrapCorner w = Check.city("c;ck1;ck1;pb2;pb2", "y:40");
        Check.same("odds(1, 10)", w.odds(1, 10), 900000000);
        Check.same("odds(0, 10): those behind do not matter", w.odds(0, 10), 990000000);
    }

    private static void promise34caneAndConstable() {
        // an old one: his cane at 1 and 3, the constable at 2
        TrapCorner x = Check.city("so1;c;ck1;ck1;ck1;pb3;pb3", "y:40");
        x.day();
        Check.same("both are old", x.all(6), 3);
        Check.same("odds(0, 30) with canes alone", x.odds(0, 30), 0);
        x.constable(2);
        Check.same("odds(0, 30)", x.odds(0, 30), 700000000);
        Check.same("odds(0, 0)", x.odds(0, 0), 1000000000);
        // the first springs 1 by his cane and is taken at 2: the second has 3 alone, and a cane
        Check.same("odds(1, 30)", x.odds(1, 30), 0);
        x.constable(3);
        // now the first uses his cane twice and is taken at 3
        Check.same("odds(1, 30)", x.odds(1, 30), 0);
    }

    private static void promise35lasts() {
        TrapCorner x = Check.city("so9;c;ck1s3;p;pa1b0", "y:40");
        Check.same("lasts(1)", x.lasts(1), 3);
        Check.same("lasts(0): none comes off it", x.lasts(0), -1);
        Check.same("lasts(2)", x.lasts(2), -1);
        Check.same("lasts(-1)", x.lasts(-1), -1);
        for (int wild : Check.WILD) {
            Check.same("lasts(wild)", x.lasts(wild), -1);
        }
        Check.same("lasts of a spring of 0", Check.city("cs0;c;p").lasts(0), 0);
        Check.same("lasts till they are old", Check.city("so2;c;ck1s3;p", "y:40").lasts(1), -1);
        Check.same("lasts with two: his cane is ahead of the other", Check.city("so2;c;ck1s3;p;p", "y:40").lasts(1), -1);
        Check.same("lasts with one who comes off his way", Check.city("so2;c;ck1s3;c;p;pa2b1r1", "y:40").lasts(1), -1);
        // taken on one day of those up to 60 and on one behind
        Check.same("lasts 60", Check.city("c;ck1s1;p", "y:d=59?40").lasts(1), 60);
        Check.same("lasts 61", Check.city("c;ck1s1;p", "y:d=60?40").lasts(1), -1);
        Check.same("lasts 1", Check.city("c;ck1s1;p", "y:d=0?40").lasts(1), 1);
    }

    private static void promise36yearly() {
        TrapCorner x = Check.city("so9;c;ck1s9;p;p", "y:40");
        // the first nine times, then the spring is gone
        Check.same("yearly(0)", x.yearly(0), 9);
        Check.same("yearly(1)", x.yearly(1), 0);
        Check.same("yearly(2)", x.yearly(2), -1);
        Check.same("yearly(-1)", x.yearly(-1), -1);
        for (int wild : Check.WILD) {
            Check.same("yearly(wild)", x.yearly(wild), -1);
        }
        Check.same("yearly till he is old", Check.city("so4;c;ck1s9;p", "y:40").yearly(0), 4);
        Check.same("yearly on the 30th day", Check.city("c;ck1s9;p", "y:d=29?40").yearly(0), 1);
        Check.same("yearly on the 31st", Check.city("c;ck1s9;p", "y:d=30?40").yearly(0), 0);
        // 27, 25, 23, .. : a spring less and one more wary each time, till it is below 20
        Check.same("yearly till he is wary", Check.city("st20o9;c;ck1s9;pg9w0").yearly(0), 4);
        TrapCorner y = Check.city("so9;c;ck1s9;p", "y:40");
        y.day();
        Check.same("yearly from now on", y.yearly(0), 8);
    }

    /** Each answer is by the law that holds when it is asked for, whatever was asked before. */
    private static void nothingIsStale() {
        TrapCorner x = Check.city("so2;c;ck1;c;pb2;pb2");
        Check.tell(x, 1, "y:0");
        Check.tell(x, 1, "y:40");
        for (int i = 0; i < 4; i++) {
            x.law(i % 2);
            boolean takes = i % 2 == 1;
            Check.same("caught(0)", x.caught(0), takes ? 1 : -1);
            x.law(1 - i % 2);
            x.caught(0);
            x.law(i % 2);
            Check.same("baits(1, 0)", x.baits(1, 0), takes ? 1 : -1);
            x.law(1 - i % 2);
            x.caught(0);
            x.law(i % 2);
            Check.same("safe(0)", x.safe(0), 1);
            Check.same("game(0, 1, 1, 0, 0)", x.game(0, 1, 1, 0, 0), takes ? 4 : -2);
            x.law(1 - i % 2);
            x.game(0, 1, 1, 0, 0);
            x.law(i % 2);
            Check.same("game(0, 1, 1, 0, 1)", x.game(0, 1, 1, 0, 1), takes ? -8 : -2);
            x.law(1 - i % 2);
            x.caught(0);
            x.law(i % 2);
            Check.same("odds(0, 0)", x.odds(0, 0), takes ? 1000000000 : 0);
            x.law(1 - i % 2);
            x.caught(0);
            x.law(i % 2);
            Check.same("all(8)", x.all(8), takes ? 1 : 0);
            x.law(1 - i % 2);
            x.caught(0);
            x.law(i % 2);
            Check.same("lasts(1)", x.lasts(1), -1);
            Check.same("yearly(0)", x.yearly(0), takes ? 2 : 0);
        }
        x.law(1);
        x.day();
        x.day();
        x.law(0);
        x.caught(0);
        x.law(1);
        Check.same("all(9)", x.all(9), 1);
        x.law(0);
        x.caught(0);
        x.law(1);
        Check.same("day()", x.day(), 0);
        Check.same("log(0, 1)", x.log(0, 1), 1);
        // by another way: the shorter one is the longer one's other side
        TrapCorner y = Check.city("c;ck1;c;c;pb2", "y:0");
        Check.same("safe(0)", y.safe(0), 0);
        Check.tell(y, 1, "y:40");
        y.law(1);
        Check.same("safe(0)", y.safe(0), 1);
    }

    private static void nothingChanges() {
        TrapCorner x = Check.city(Check.HOME);
        Check.tell(x, 1, "y:m*20+s");
        Check.tell(x, 2, "d;k21;s1;r0;d");
        x.law(0);
        x.day();
        x.constable(1);
        x.seen(0, 3, 1, true);
        String before = Check.whole(x);
        for (int i = 0; i < 3; i++) {
            x.run(0, 0);
            x.pulled(i, i);
            x.caught(i);
            x.baits(i, 0);
            x.moves(i, 0);
            x.ask(i, 3);
            x.safe(i);
            x.passes(i);
            x.walk(i);
            x.game(i, i, 3, 1, 0);
            x.rests(i, i, -1);
            x.odds(i, 50);
            x.lasts(i);
            x.yearly(i);
            x.needs(i, i);
            x.shares(i, 9);
            x.kinds(i);
            x.fault(i);
        }
        for (int i = 0; i <= 10; i++) {
            x.all(i);
        }
        Check.unchanged("what is told apart", x, before);
    }
}
