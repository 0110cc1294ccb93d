/** Promises 1 to 5 and 20: a new object, the tape, faults, texts, steps. */
public final class TextsTest {
    public static void main(String[] args) {
        promise1newObject();
        promise2feed();
        promise3end();
        promise4faultOfCity();
        promise4numbersOfCity();
        promise4faultOfLaw();
        promise4nestingOfLaw();
        promise4faultOfPlan();
        promise4sorts();
        promise5textOfCity();
        promise5newCity();
        promise5smallerCity();
        promise5textOfLawAndPlan();
        promise20step();
        Check.close();
    }

    private static void promise1newObject() {
        TrapCorner x = new TrapCorner();
        int[] counts = {0, 0, 0, 0, 0, -1, 0, 0, -1, 2, 0, 0, 0};
        for (int i = 0; i < counts.length; i++) {
            Check.same("count(" + i + ") of a new object", x.count(i), counts[i]);
        }
        Check.noSuchElement(x, 0, 0);
        Check.same("rule(1)", x.rule(1), -1);
        Check.same("corner(0, 1)", x.corner(0, 1), -1);
        Check.same("back()", x.back(), -1);
        Check.same("undo()", x.undo(), -1);
        Check.same("all(10)", x.all(10), -1);
        Check.same("run(0, 0)", x.run(0, 0), Check.HIDDEN);
    }

    private static void promise2feed() {
        TrapCorner x = new TrapCorner();
        Check.same("feed of nothing", x.feed(0, 0, 0, 0, 0), 0);
        // "c;" "c" ";p": bytes of 0 are left out wherever they stand, the highest comes first
        Check.same("feed with gaps", x.feed(0x00630000, 0x3b000063, 0, 0x0000003b, 0x70), 5);
        Check.same("fault(0)", x.fault(0), -1);
        Check.same("text(0)", x.text(0), 1);
        Check.same("feed of high bytes", x.feed(-1, 0x80000080, 0, 0xff00, 1), 8);
        Check.same("end(0)", x.end(0), true);
        for (int i = 1; i <= 11; i++) {
            Check.same("feed", x.feed(0x20202020, 0x20202020, 0x20202020, 0x20202020, 0x20202020), 20 * i);
        }
        Check.same("feed to 237", x.feed(0x20202020, 0x20202020, 0x20202020, 0x20202020, 0x20), 237);
        for (int i = 0; i < 5; i++) {
            int[] five = new int[5];
            five[i] = 0x20202020;
            Check.same("feed beyond 240", x.feed(five[0], five[1], five[2], five[3], five[4]), -1);
        }
        Check.same("feed beyond 240 by all", x.feed(32, 32, 32, 32, 32), -1);
        Check.same("count(4) is as before", x.count(4), 237);
        Check.same("feed to 240", x.feed(0x79, 0, 0x3a000000, 0, 0x31), 240);
        Check.same("fault(1): they stand where they came", x.fault(1), -1);
        Check.same("feed of one more", x.feed(0, 0, 0, 0, 1), -1);
        Check.same("feed of nothing more", x.feed(0, 0, 0, 0, 0), 240);
    }

    private static void promise3end() {
        TrapCorner x = new TrapCorner();
        Check.put(x, "c;c;p;x");
        Check.same("end(8)", x.end(8), false);
        Check.same("end(-1)", x.end(-1), false);
        Check.same("end of MIN", x.end(Integer.MIN_VALUE), false);
        Check.same("end of MAX", x.end(Integer.MAX_VALUE), false);
        Check.same("count(4)", x.count(4), 7);
        Check.same("end(7)", x.end(7), true);
        Check.same("fault(0)", x.fault(0), 6);
        Check.same("end(5)", x.end(5), true);
        Check.same("fault(0)", x.fault(0), -1);
        Check.same("end(6)", x.end(6), false);
        Check.same("end(0)", x.end(0), true);
        Check.same("end(0)", x.end(0), true);
        Check.same("end(1)", x.end(1), false);
        Check.same("count(4)", x.count(4), 0);
    }

    private static void promise4faultOfCity() {
        Check.faults(0, "c;c;p", -1);
        Check.faults(0, "p;c;c", -1);
        Check.faults(0, "c;s;p;c", -1);
        Check.faults(0, Check.HOME, -1);
        Check.faults(0, " c k 1 ; c ; p g 2 ; s c 3 ", -1);
        Check.faults(0, "", 0);
        Check.faults(0, "   ", 3);
        Check.faults(0, "s", 1);
        Check.faults(0, "c;p", 3);
        Check.faults(0, "c;c", 3);
        Check.faults(0, "c;c;", 4);
        Check.faults(0, "c;c;p;", 6);
        Check.faults(0, "c;c;p; ", 7);
        Check.faults(0, ";", 0);
        Check.faults(0, "c;;c", 2);
        Check.faults(0, "x", 0);
        Check.faults(0, "C", 0);
        Check.faults(0, "c;c;p x", 6);
        Check.faults(0, "c;c;p\t", 5);
        Check.faults(0, "c;c;p" + (char) 255, 5);
        Check.faults(0, "c;c;p" + (char) 160, 5);
        Check.faults(0, "cc", 1);
        Check.faults(0, "cm1", 1);
        Check.faults(0, "pk1", 1);
        Check.faults(0, "sk1", 1);
        Check.faults(0, "s;s;c", 2);
        Check.faults(0, "s;c;c;p;s", 8);
        Check.faults(0, "c;c;c;c;c;p", -1);
        Check.faults(0, "c;c;c;c;c;c", 10);
        Check.faults(0, "p;p;p;p;p;p;c;c", -1);
        Check.faults(0, "p;p;p;p;p;p;p", 12);
        Check.faults(0, "c;c;pb2", 7);
        Check.faults(0, "c;c;pb2;c", -1);
        Check.faults(0, "c;c;pa2b0", 9);
        Check.faults(0, "c;c;pa2b0;c", -1);
        Check.faults(0, "c;c;pa1", 7);
        Check.faults(0, "c;c;pb0", 7);
        Check.faults(0, "c;c;pa1b01", 10);
        Check.faults(0, "c;c;pa1b1;x", 10);
        Check.faults(0, "c;c;p;pa1;p", 11);
        Check.faults(0, "c;c;c;c;c;pa4b0", -1);
    }

    private static void promise4numbersOfCity() {
        String[] sound = {"st1", "st30", "st01", "sc0", "sc99", "so1", "so9", "so09", "sc1t1o1"};
        for (String s : sound) {
            Check.faults(0, s + ";c;c;p", -1);
        }
        Check.faults(0, "ck0s0;ck3s9;pm1g0w0a0b1r0;pm3g9w9a1b0r1", -1);
        Check.faults(0, "st0;c", 2);
        Check.faults(0, "st00;c", 3);
        Check.faults(0, "st31;c", 3);
        Check.faults(0, "st99", 3);
        Check.faults(0, "sc100;c", 4);
        Check.faults(0, "so0;c", 2);
        Check.faults(0, "so10;c", 3);
        Check.faults(0, "ck4", 2);
        Check.faults(0, "ck41", 3);
        Check.faults(0, "cs10", 3);
        Check.faults(0, "pm0", 2);
        Check.faults(0, "pm4", 2);
        Check.faults(0, "pg10", 3);
        Check.faults(0, "pw10", 3);
        Check.faults(0, "pa5", 2);
        Check.faults(0, "pb5", 2);
        Check.faults(0, "pr2", 2);
        Check.faults(0, "st001", 4);
        Check.faults(0, "ck999", 4);
        Check.faults(0, "st310", 4);
        Check.faults(0, "ck9 9", 2);
        Check.faults(0, "ck", 2);
        Check.faults(0, "ck ", 3);
        Check.faults(0, "ck;", 2);
        Check.faults(0, "ckk", 2);
        Check.faults(0, "ck-1", 2);
        Check.faults(0, "ck1+", 3);
        Check.faults(0, "ck1 2", 4);
        Check.faults(0, "ck1k1", 3);
        Check.faults(0, "ck1s1k1", 5);
        Check.faults(0, "st1t1", 3);
        Check.faults(0, "pm1g1m1", 5);
        Check.faults(0, "pr1 r", 4);
    }

    private static void promise4faultOfLaw() {
        String[] sound = {"y:1", "y:m", "y:g", "y:w", "y:s", "y:n", "y:d", "y:1234", "y:0000", "y:1;y:2", "y:m=1?2",
            "y:m<1?2", "y:m>1?2", "y:(m=1)?1", "y:[m]", "y:[m]=1?1", "y:!m=1?1", "y:m=1|g=2&w=3?1", "y:[[1]+2]*[3]-4/5",
            " y : ( m = 1 ) ? [ 2 ] ", "y:1 ; y : m > 0 ? 5", "y:m+1=g*2?s-1", "y:(m=1&!(g=1|w=2))|n=0?d"};
        for (String s : sound) {
            Check.faults(1, s, -1);
        }
        Check.faults(1, "", 0);
        Check.faults(1, "y", 1);
        Check.faults(1, "y:", 2);
        Check.faults(1, "y1", 1);
        Check.faults(1, "x", 0);
        Check.faults(1, "y:1;", 4);
        Check.faults(1, "y:1;;", 4);
        Check.faults(1, "y:1;y", 5);
        Check.faults(1, "y:1y", 3);
        Check.faults(1, "y:x", 2);
        Check.faults(1, "y:a", 2);
        Check.faults(1, "y:mg", 3);
        Check.faults(1, "y:12345", 6);
        Check.faults(1, "y:1 2", 4);
        Check.faults(1, "y:-1", 2);
        Check.faults(1, "y:1+", 4);
        Check.faults(1, "y:1+*", 4);
        Check.faults(1, "y:m=1", 5);
        Check.faults(1, "y:m=1;", 5);
        Check.faults(1, "y:m=1?", 6);
        Check.faults(1, "y:m=1?;", 6);
        Check.faults(1, "y:m=?1", 4);
        Check.faults(1, "y:m?1", 3);
        Check.faults(1, "y:m&", 3);
        Check.faults(1, "y:m==1", 4);
        Check.faults(1, "y:m=1=1", 5);
        Check.faults(1, "y:m=1&g", 7);
        Check.faults(1, "y:m=1&g?1", 7);
        Check.faults(1, "y:m=1||", 6);
        Check.faults(1, "y:m=1)?1", 5);
        Check.faults(1, "y:(m=1)", 7);
        Check.faults(1, "y:(m=1);", 7);
        Check.faults(1, "y:(m=1)=1", 7);
        Check.faults(1, "y:(m=1)+1", 7);
        Check.faults(1, "y:(m)", 4);
        Check.faults(1, "y:(m=1", 6);
        Check.faults(1, "y:(m=1]?1", 6);
        Check.faults(1, "y:(m=1?1", 6);
        Check.faults(1, "y:[m=1]?1", 4);
        Check.faults(1, "y:[m)", 4);
        Check.faults(1, "y:[m", 4);
        Check.faults(1, "y:[]", 3);
        Check.faults(1, "y:[(m", 3);
        Check.faults(1, "y:!m", 4);
        Check.faults(1, "y:!m?1", 4);
        Check.faults(1, "y:!m;", 4);
        Check.faults(1, "y:m=(1)?1", 4);
        Check.faults(1, "y:m=!1?1", 4);
        Check.faults(1, "y:1+!", 4);
        Check.faults(1, "y:m=1?!m", 6);
        Check.faults(1, "y:m=1?(1)", 6);
        Check.faults(1, "y:m=1?2?3", 7);
        Check.faults(1, "y:m=1?2=3", 7);
        Check.faults(1, "y:m=1?2;y:g", -1);
        Check.faults(1, "y:m=1?2;y:g>", 12);
    }

    private static void promise4nestingOfLaw() {
        Check.faults(1, "y:[[[[[[m]]]]]]", -1);
        Check.faults(1, "y:[[[[[[[m]]]]]]]", 8);
        Check.faults(1, "y:((((((m=1))))))?1", -1);
        Check.faults(1, "y:(((((((m=1)))))))?1", 8);
        Check.faults(1, "y:(((((([m]=1))))))?1", 8);
        Check.faults(1, "y:((((((m=[1]))))))?1", 10);
        Check.faults(1, "y:!!!!!!m=1?1", -1);
        Check.faults(1, "y:!!!!!!!m=1?1", 8);
        Check.faults(1, "y:!!!!!!m=[1]?1", 10);
        Check.faults(1, "y:!!!!!!(m=1)?1", 8);
        Check.faults(1, "y:!!!(!!m=1)?1", -1);
        Check.faults(1, "y:!!!(!!!m=1)?1", 8);
        Check.faults(1, "y:!(m=1&!(g=1&[[2]]=2))?1", -1);
        Check.faults(1, "y:!!!!!!m=1&!!!!!!g=1|((((((m=1))))))?[[[[[[1]]]]]]+[[[[[[1]]]]]]", -1);
        Check.faults(1, "y:m=1?[[[[[[[1", 12);
        Check.faults(1, "y:1;y:!!!!!!!", 12);
    }

    private static void promise4faultOfPlan() {
        String[] sound = {"d", "k01", "k99", "s0", "s9", "r9", "d;k00;s1;r0;d;k04", " k 0 1 ; d ", "r 1",
            "d;d;d;d;d;d;d;d;d;d;d;d;d;d;d;d"};
        for (String s : sound) {
            Check.faults(2, s, -1);
        }
        Check.faults(2, "", 0);
        Check.faults(2, "  ", 2);
        Check.faults(2, "z", 0);
        Check.faults(2, "d1", 1);
        Check.faults(2, "k", 1);
        Check.faults(2, "k0", 2);
        Check.faults(2, "k0;", 2);
        Check.faults(2, "k012", 3);
        Check.faults(2, "kk", 1);
        Check.faults(2, "s", 1);
        Check.faults(2, "s12", 2);
        Check.faults(2, "r", 1);
        Check.faults(2, "r9;", 3);
        Check.faults(2, "r9;;", 3);
        Check.faults(2, "d d", 2);
        Check.faults(2, "d;d;d;d;d;d;d;d;d;d;d;d;d;d;d;d;", 31);
        Check.faults(2, "d;d;d;d;d;d;d;d;d;d;d;d;d;d;d;d;d", 31);
        Check.faults(2, "d;d;d;d;d;d;d;d;d;d;d;d;d;d;d;d ;d", 32);
        Check.faults(2, "d;d;d;d;d;d;d;d;d;d;d;d;d;d;d;d x", 32);
    }

    private static void promise4sorts() {
        Check.faults(3, "c;c;p", -2);
        Check.faults(-1, "c;c;p", -2);
        Check.faults(Integer.MAX_VALUE, "", -2);
        Check.faults(Integer.MIN_VALUE, "", -2);
    }

    private static void promise5textOfCity() {
        TrapCorner x = new TrapCorner();
        Check.put(x, "c;c");
        Check.same("text(0) of half a city", x.text(0), -1);
        Check.same("text(3)", x.text(3), -1);
        Check.same("text(-1)", x.text(-1), -1);
        Check.same("count(4): the tape is as it was", x.count(4), 3);
        Check.same("count(0)", x.count(0), 0);
        Check.put(x, ";p;p");
        Check.same("text(0)", x.text(0), 2);
        Check.same("count(4): the tape is empty", x.count(4), 0);
        Check.same("text(0) of nothing", x.text(0), -1);
        Check.same("count(0): the city stays", x.count(0), 2);
        int[] rules = {8, 20, 3};
        for (int i = 0; i < 3; i++) {
            Check.same("rule(" + i + ") without", x.rule(i), rules[i]);
        }
        Check.same("crumb without", x.corner(1, 0), 0);
        Check.same("spring without", x.corner(1, 1), 5);
        int[] person = {1, 4, 2, 0, 1, 0, 0};
        for (int i = 0; i < 7; i++) {
            Check.same("person(1, " + i + ") without", x.person(1, i), person[i]);
        }
    }

    private static void promise5newCity() {
        TrapCorner x = Check.city(Check.HOME);
        Check.tell(x, 1, "y:40");
        Check.tell(x, 2, "d;k01");
        x.law(0);
        x.dogs(7);
        x.day();
        x.constable(2);
        x.seen(0, 1, 1, false);
        x.image();
        Check.put(x, "c;p");
        String before = Check.whole(x);
        Check.same("text(0) of a city with a fault", x.text(0), -1);
        Check.unchanged("that", x, before);
        Check.same("text(0)", Check.tell(x, 0, "c;ck1s3;pg1"), 1);
        int[] counts = {1, 2, 1, 1, 0, 0, 0, 0, -1, 7, 0, 0, 0};
        for (int i = 0; i < counts.length; i++) {
            Check.same("count(" + i + ") in a new city", x.count(i), counts[i]);
        }
        Check.same("back() to the old one", x.back(), -1);
        Check.same("undo() in a new city", x.undo(), -1);
        Check.same("log(0, 0)", x.log(0, 0), -1);
        Check.same("person(0, 6)", x.person(0, 6), 0);
        Check.same("rule(1)", x.rule(1), 20);
        Check.same("pulled by the law that held", x.pulled(0, 0), 40);
        Check.same("step of the plan that was", x.step(0, 1, 2), 1);
        Check.noSuchElement(x, 1, 0);
        Check.same("moves(0, -1): what was seen is gone", x.moves(0, -1), 30);
    }

    /** Nothing of a larger city shows in a smaller one. */
    private static void promise5smallerCity() {
        TrapCorner x = Check.city("st30c99o1;cs0;cs0;cs9;ck3s9;ck3s9;pa2b4w0g1;pw9g9a3b1;pm3w9g9a1b0;pm3a4b0");
        x.day();
        Check.same("text(0)", Check.tell(x, 0, "s;cs0;cs0;p"), 1);
        int[] rules = {8, 20, 3};
        for (int i = 0; i < 3; i++) {
            Check.same("rule(" + i + ")", x.rule(i), rules[i]);
        }
        int[] all = {1, 0, 0, 0, 0, 1, 0, 3, 0, 0, 0};
        for (int i = 0; i < all.length; i++) {
            Check.same("all(" + i + ")", x.all(i), all[i]);
        }
        Check.same("passes(0)", x.passes(0), 0);
        Check.same("passes(1)", x.passes(1), 1);
        Check.same("shares(0, 9)", x.shares(0, 9), 0);
        Check.same("kinds(3)", x.kinds(3), 0);
        Check.same("count(7)", x.count(7), 0);
        Check.same("corner(2, 0)", x.corner(2, 0), -1);
        Check.same("text(0) with rules again", Check.tell(x, 0, "st3;c;c;p"), 1);
        Check.same("text(0) without", Check.tell(x, 0, "c;c;p"), 1);
        Check.same("rule(0)", x.rule(0), 8);
    }

    private static void promise5textOfLawAndPlan() {
        TrapCorner x = new TrapCorner();
        for (int i = 0; i < 4; i++) {
            Check.same("a law", Check.tell(x, 1, "y:" + i), i);
            Check.same("count(2)", x.count(2), i + 1);
            Check.same("count(4)", x.count(4), 0);
            Check.same("a plan", Check.tell(x, 2, "s" + i), i);
            Check.same("count(3)", x.count(3), i + 1);
            Check.same("count(4)", x.count(4), 0);
        }
        Check.same("a fifth law", Check.tell(x, 1, "y:9"), -1);
        Check.same("count(4): the tape is as it was", x.count(4), 3);
        Check.same("a fifth plan", Check.tell(x, 2, "s9"), -1);
        Check.same("count(4): the tape is as it was", x.count(4), 2);
        Check.same("count(5): no law holds by being told", x.count(5), -1);
        Check.same("step(3, 0, 1)", x.step(3, 0, 1), 3);
        Check.same("a law with a fault", Check.tell(new TrapCorner(), 1, "y:"), -1);
        Check.same("a plan with a fault", Check.tell(new TrapCorner(), 2, "d;"), -1);
    }

    private static void promise20step() {
        TrapCorner x = new TrapCorner();
        Check.tell(x, 2, "d; k 4 9; s7; r3");
        Check.tell(x, 2, "r0");
        int[][] steps = {{0, -1, -1}, {1, 4, 9}, {2, 7, -1}, {3, 3, -1}};
        for (int i = 0; i < 4; i++) {
            for (int what = 0; what < 3; what++) {
                Check.same("step(0, " + i + ", " + what + ")", x.step(0, i, what), steps[i][what]);
            }
            Check.same("step(0, i, 3)", x.step(0, i, 3), Check.HIDDEN);
            Check.same("step(0, i, -1)", x.step(0, i, -1), Check.HIDDEN);
        }
        Check.same("step(1, 0, 0)", x.step(1, 0, 0), 3);
        Check.same("step(1, 0, 1)", x.step(1, 0, 1), 0);
        Check.same("step(0, 4, 0)", x.step(0, 4, 0), Check.HIDDEN);
        Check.same("step(1, 1, 0)", x.step(1, 1, 0), Check.HIDDEN);
        Check.same("step(0, -1, 0)", x.step(0, -1, 0), Check.HIDDEN);
        Check.same("step(2, 0, 0)", x.step(2, 0, 0), Check.HIDDEN);
        Check.same("step(-1, 0, 0)", x.step(-1, 0, 0), Check.HIDDEN);
        for (int wild : Check.WILD) {
            Check.same("step(wild, 0, 0)", x.step(wild, 0, 0), Check.HIDDEN);
            Check.same("step(0, wild, 0)", x.step(0, wild, 0), Check.HIDDEN);
            Check.same("step(0, 0, wild)", x.step(0, 0, wild), Check.HIDDEN);
        }
    }
}
