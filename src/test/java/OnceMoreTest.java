/**
 * What a third reading of the document found tested by random runs alone, or by nothing: signs that stand for a
 * letter, the last of six people, questions that follow one another, images late in the years.
 */
public final class OnceMoreTest {
    /** Six people, the last of whom alone comes to a trap. */
    private static final String LAST_OF_SIX = ";pa1b0;pa1b0;pa1b0;pa1b0;pa1b0;p";

    public static void main(String[] args) {
        digitForLetter();
        lastOfSixUndone();
        lastOfSixApart();
        eachAtHisCorner();
        asking();
        askedInAnyOrder();
        lateImage();
        Check.close();
    }

    private static void digitForLetter() {
        Check.bound(4, "an ITEM begins with a letter of its CLAUSE");
        for (char digit = '0'; digit <= '9'; digit++) {
            Check.faults(0, "s" + digit + ";c;c;p", 1);
            Check.faults(0, "c;c" + digit + ";p", 3);
            Check.faults(0, "c;c;p" + digit, 5);
            Check.faults(0, "c;c;pm1 " + digit, 8);
            Check.faults(0, "" + digit, 0);
        }
        Check.bound(4, "a STEP begins with its letter");
        for (char digit = '0'; digit <= '9'; digit++) {
            Check.faults(2, "" + digit, 0);
            Check.faults(2, "d;" + digit, 2);
            Check.faults(2, "k00" + digit, 3);
            Check.faults(2, "d" + digit, 1);
        }
        Check.bound(4, "a LAW begins with y, and : behind it");
        for (char digit = '0'; digit <= '9'; digit++) {
            Check.faults(1, "" + digit, 0);
            Check.faults(1, "y" + digit, 1);
            Check.faults(1, "y:m" + digit, 3);
        }
    }

    private static void lastOfSix(TrapCorner x, int wary, int way, int times) {
        Check.same("person(5, 2)", x.person(5, 2), wary);
        Check.same("person(5, 5)", x.person(5, 5), way);
        Check.same("person(5, 6)", x.person(5, 6), times);
    }

    private static void lastOfSixUndone() {
        Check.bound(18, "all PEOPLE are as they were, the sixth, too");
        TrapCorner x = Check.city("c;ck1s9" + LAST_OF_SIX);
        Check.same("day()", x.day(), 1);
        Check.same("log(0, 0)", x.log(0, 0), 32);
        lastOfSix(x, 3, 0, 1);
        Check.same("about(5)", x.about(5), 1);
        lastOfSix(x, 3, 1, 1);
        Check.same("undo()", x.undo(), 1);
        lastOfSix(x, 3, 0, 1);
        Check.same("undo()", x.undo(), 0);
        lastOfSix(x, 2, 0, 0);
        Check.bound(42, "all PEOPLE are so again, the sixth, too");
        x.day();
        x.about(5);
        x.image();
        x.day();
        x.about(5);
        lastOfSix(x, 4, 0, 2);
        Check.same("back()", x.back(), 1);
        lastOfSix(x, 3, 1, 1);
    }

    private static void lastOfSixApart() {
        Check.bound(36, "from as it is, whoever was asked for ahead: WARY");
        TrapCorner x = Check.city("so9;c;ck1s9" + LAST_OF_SIX);
        Check.same("yearly(5)", x.yearly(5), 4);
        Check.same("yearly(5) again", x.yearly(5), 4);
        lastOfSix(x, 2, 0, 0);
        Check.bound(36, "from as it is, whoever was asked for ahead: TIMES");
        TrapCorner y = Check.city("c;ck1s9" + LAST_OF_SIX, "y:40");
        Check.same("yearly(5)", y.yearly(5), 3);
        Check.same("yearly(5) again", y.yearly(5), 3);
        lastOfSix(y, 2, 0, 0);
        Check.bound(36, "from as it is, whoever was asked for ahead: WAY");
        TrapCorner z = Check.city("so9;c;ck1s9;c;pa1b2;pa1b2;pa1b2;pa1b2;pa1b2;pa0b2");
        Check.same("game(5, 1, 1, 1, 0)", z.game(5, 1, 1, 1, 0), -2);
        Check.same("yearly(5)", z.yearly(5), 4);
        lastOfSix(z, 2, 0, 0);
    }

    private static void eachAtHisCorner() {
        Check.bound(24, "PULL is that of each CORNER on each one");
        TrapCorner x = Check.city("ck1;c;c;c;ck1;pg0a3b4;pg9a4b0");
        Check.same("caught(0)", x.caught(0), -1);
        Check.same("caught(1)", x.caught(1), 0);
        TrapCorner y = Check.city("ck1;ck1;ck1;ck1;ck1;pg0a0b4;pg9a4b0;pg0a0b4;pg9a0b1;pg0a0b4;pg9a1b2");
        int[] where = {-1, 0, -1, 1, -1, 2};
        for (int i = 0; i < 6; i++) {
            Check.same("caught(" + i + ")", y.caught(i), where[i]);
        }
        Check.same("all(8)", y.all(8), 42);
        Check.bound(37, "BUSIEST of six PEOPLE");
        Check.same("all(0)", y.all(0), 1);
        Check.bound(25, "PULL is that of each CORNER on each one");
        Check.same("baits(2, 0)", y.baits(2, 0), 10000);
        Check.same("baits(2, 1)", y.baits(2, 1), 0);
        Check.same("baits(42, 0)", y.baits(42, 0), 11100);
        Check.same("baits(1, 0)", y.baits(1, 0), -1);
    }

    private static void asking() {
        Check.bound(28, "all that fit are counted, the first, too");
        TrapCorner x = Check.city("c;c;p", "y:m*40");
        Check.same("moves(0, NONE)", x.moves(0, -1), 30);
        Check.same("ask(0, 5)", x.ask(0, 5), 1);
        Check.bound(28, "a CRUMB of 1 .. 3, even if no CRUMB at all would part them better");
        TrapCorner y = Check.city("c;c;p", "y:m=0&g>4?40;y:0");
        Check.same("ask(0, 5)", y.ask(0, 5), 1);
        Check.bound(28, "the last that fits is counted, too");
        TrapCorner z = Check.city("c;c;p", "y:m*40");
        z.seen(0, 5, 1, false);
        Check.same("moves(0, NONE)", z.moves(0, -1), 20);
        Check.same("ask(0, 5): ten of twenty", z.ask(0, 5), 2);
        z.seen(0, 5, 2, false);
        Check.same("moves(0, NONE)", z.moves(0, -1), 10);
        Check.same("ask(0, 5): none, none, all of ten", z.ask(0, 5), 1);
    }

    private static TrapCorner lively() {
        TrapCorner x = Check.city("st9o1;ck1s4;ck2s6;ck3s3;cs9;pa0b2g5;pm2a3b1w0;pm3a2b1g2r1;pm2a1b0");
        Check.tell(x, 1, "y:n=0?s*2+m*g;y:30-w-d");
        Check.tell(x, 1, "y:m*g*2+d");
        Check.tell(x, 2, "d;s0;k31;d;r1;d");
        x.crumb(0, 2);
        x.day();
        return x;
    }

    private static final String[] QUESTION_NAMES = {"run(0, 1)", "pulled(0, 1)", "caught(1)", "baits(3, 0)",
        "ask(0, 4)", "safe(0)", "game(1, 1, 1, 1, 0)", "game(0, 2, 3, 0, 1)", "rests(0, 1, 0)", "odds(1, 20)",
        "lasts(1)", "yearly(0)", "all(8)", "all(9)", "needs(0, 1)"};

    private static int question(TrapCorner x, int k) {
        switch (k) {
            case 0:
                return x.run(0, 1);
            case 1:
                return x.pulled(0, 1);
            case 2:
                return x.caught(1);
            case 3:
                return x.baits(3, 0);
            case 4:
                return x.ask(0, 4);
            case 5:
                return x.safe(0);
            case 6:
                return x.game(1, 1, 1, 1, 0);
            case 7:
                return x.game(0, 2, 3, 0, 1);
            case 8:
                return x.rests(0, 1, 0);
            case 9:
                return x.odds(1, 20);
            case 10:
                return x.lasts(1);
            case 11:
                return x.yearly(0);
            case 12:
                return x.all(8);
            case 13:
                return x.all(9);
            default:
                return x.needs(0, 1);
        }
    }

    private static void change(TrapCorner x, int k) {
        switch (k) {
            case 0:
                x.renew(1);
                break;
            case 1:
                x.crumb(1, 1);
                break;
            case 2:
                x.law(0);
                break;
            case 3:
                x.law(1);
                break;
            case 4:
                x.about(0);
                break;
            case 5:
                x.constable(1);
                break;
            case 6:
                x.undo();
                break;
            case 7:
                x.years(2, 77);
                break;
            default:
                x.day();
                break;
        }
    }

    /** An answer is of what is when it is asked, whatever was asked and answered ahead. */
    private static void askedInAnyOrder() {
        Check.bound(21, "(Apart, from as it is)");
        for (int change = 0; change <= 8; change++) {
            for (int ahead = 0; ahead < QUESTION_NAMES.length; ahead++) {
                for (int then = 0; then < QUESTION_NAMES.length; then++) {
                    TrapCorner asked = lively();
                    question(asked, ahead);
                    change(asked, change);
                    TrapCorner spared = lively();
                    change(spared, change);
                    Check.same(QUESTION_NAMES[ahead] + ", change " + change + ", " + QUESTION_NAMES[then],
                            question(asked, then), question(spared, then));
                }
            }
        }
    }

    private static void lateImage() {
        Check.bound(42, "the LOG of 60 is so again, wherever in the years the IMAGE was made");
        for (int late : new int[] {95, 100, 130, 159, 160}) {
            TrapCorner x = Check.city("sc0;c;c;p");
            for (int i = 1; i <= late; i++) {
                x.give(1);
                x.day();
            }
            Check.same("image()", x.image(), late);
            for (int i = 0; i < 5; i++) {
                x.years(30, i);
            }
            Check.same("back()", x.back(), late);
            Check.same("count(11)", x.count(11), 60);
            for (int i = 0; i < 60; i++) {
                Check.same("log(" + i + ", 2) on " + late, x.log(i, 2), late - i);
            }
        }
    }
}
