/** The boundary cases of promises 1 to 5 and 20, sentence by sentence: the tape, the three sorts of text, steps. */
public final class TextBoundsTest {
    private static final int BLANKS = 0x20202020;
    /** Each letter of a city: its clause, the letter, the lowest and the highest number, the one without. */
    private static final String[][] ITEMS = {{"s", "t", "1", "30", "8"}, {"s", "c", "0", "99", "20"},
        {"s", "o", "1", "9", "3"}, {"c", "k", "0", "3", "0"}, {"c", "s", "0", "9", "5"}, {"p", "m", "1", "3", "1"},
        {"p", "g", "0", "9", "4"}, {"p", "w", "0", "9", "2"}, {"p", "a", "0", "4", "0"}, {"p", "b", "0", "4", "1"},
        {"p", "r", "0", "1", "0"}};

    public static void main(String[] args) {
        newObject();
        feedOrder();
        feedZeros();
        feedFull();
        end();
        sorts();
        tooEarly();
        clausesOfCity();
        cornersOfPeople();
        itemsWithinBounds();
        itemsOutOfBounds();
        thirdDigits();
        letters();
        blanksOfCity();
        clausesOfLaw();
        numbersOfLaw();
        nestingOfLaw();
        conditionsOfLaw();
        blanksOfLaw();
        stepsOfPlan();
        digitsOfPlan();
        blanksOfPlan();
        textIsRefused();
        textIsTaken();
        fourLawsAndPlans();
        anotherCity();
        steps();
        Check.close();
    }

    private static void newObject() {
        Check.bound(1, "No CITY");
        TrapCorner x = new TrapCorner();
        int[] counts = {0, 0, 0, 0, 0, -1, 0, 0, -1, 2, 0, 0, 0};
        for (int i = 0; i < counts.length; i++) {
            Check.same("count(" + i + ")", x.count(i), counts[i]);
        }
        Check.same("rule(0)", x.rule(0), -1);
        Check.same("corner(0, 0)", x.corner(0, 0), -1);
        Check.noSuchElement(x, 0, 0);
    }

    private static void feedOrder() {
        Check.bound(2, "Twenty bytes more come, of each number the highest first");
        TrapCorner x = new TrapCorner();
        // st9c 7o4; c;c; pm3g 7w8
        Check.same("feed", x.feed(0x73743963, 0x376f343b, 0x633b633b, 0x706d3367, 0x37773862), 20);
        Check.same("feed of one", x.feed(0x31000000, 0, 0, 0, 0), 21);
        Check.same("text(0)", x.text(0), 1);
        int[] rules = {9, 7, 4};
        for (int i = 0; i < 3; i++) {
            Check.same("rule(" + i + ")", x.rule(i), rules[i]);
        }
        int[] person = {3, 7, 8, 0, 1, 0, 0};
        for (int i = 0; i < 7; i++) {
            Check.same("person(0, " + i + ")", x.person(0, i), person[i]);
        }
        Check.bound(2, "a byte above 127 is one, too");
        TrapCorner y = new TrapCorner();
        Check.same("feed(-1, ..)", y.feed(-1, 0, 0, 0, 0), 4);
        Check.same("feed(MIN, ..)", y.feed(Integer.MIN_VALUE, 0, 0, 0, 0), 5);
        Check.same("feed(.., 255)", y.feed(0, 0, 0, 0, 255), 6);
    }

    private static void feedZeros() {
        Check.bound(2, "bytes of 0 are left out, wherever they stand");
        for (int at = 0; at < 20; at++) {
            TrapCorner x = new TrapCorner();
            int[] five = new int[5];
            five[at / 4] = 'd' << 24 - 8 * (at % 4);
            Check.same("feed of one at " + at, x.feed(five[0], five[1], five[2], five[3], five[4]), 1);
            Check.same("fault(2)", x.fault(2), -1);
            // all but one are there
            for (int i = 0; i < 5; i++) {
                five[i] = BLANKS;
            }
            five[at / 4] ^= ' ' << 24 - 8 * (at % 4);
            Check.same("feed of all but " + at, x.feed(five[0], five[1], five[2], five[3], five[4]), 20);
        }
        Check.bound(2, "nothing but bytes of 0: how many it has");
        TrapCorner x = new TrapCorner();
        Check.same("feed of nothing", x.feed(0, 0, 0, 0, 0), 0);
        Check.put(x, "abc");
        Check.same("feed of nothing", x.feed(0, 0, 0, 0, 0), 3);
    }

    /** A tape of so many blanks. */
    private static TrapCorner blanks(int n) {
        TrapCorner x = new TrapCorner();
        for (int i = 0; i < n / 20; i++) {
            x.feed(BLANKS, BLANKS, BLANKS, BLANKS, BLANKS);
        }
        for (int i = 0; i < n % 20; i++) {
            x.feed(0, 0, 0, 0, 32);
        }
        Check.same("bytes of the tape", x.count(4), n);
        return x;
    }

    private static void feedFull() {
        Check.bound(2, "NONE: more than 240");
        Check.same("220 and 20", blanks(220).feed(BLANKS, BLANKS, BLANKS, BLANKS, BLANKS), 240);
        Check.same("221 and 20", blanks(221).feed(BLANKS, BLANKS, BLANKS, BLANKS, BLANKS), -1);
        Check.same("239 and 1", blanks(239).feed(0, 0, 0x2000, 0, 0), 240);
        Check.same("239 and 2", blanks(239).feed(0, 0, 0x2020, 0, 0), -1);
        Check.same("239 and 2 in two numbers", blanks(239).feed(32, 0, 0, 0, 32), -1);
        Check.same("240 and 1", blanks(240).feed(0, 0, 0, 0, 1), -1);
        Check.same("240 and 0", blanks(240).feed(0, 0, 0, 0, 0), 240);
        Check.bound(2, "of what is more than 240 nothing comes");
        TrapCorner x = blanks(238);
        Check.same("three more", x.feed('d' << 24, 0, ';' << 8, 0, 'd'), -1);
        Check.same("count(4)", x.count(4), 238);
        Check.same("fault(2)", x.fault(2), 238);
        Check.same("two more", x.feed('s' << 24, 0, 0, 0, '3'), 240);
        Check.same("text(2)", x.text(2), 0);
        Check.same("step(0, 0, 1)", x.step(0, 0, 1), 3);
        Check.bound(2, "240 bytes are read to the last");
        TrapCorner y = blanks(237);
        y.feed('y', ':', 'z', 0, 0);
        Check.same("fault(1)", y.fault(1), 239);
    }

    private static void end() {
        Check.bound(3, "The TAPE has its first n bytes alone");
        TrapCorner x = new TrapCorner();
        Check.put(x, "k12;s3");
        Check.same("end(6), as many as there are", x.end(6), true);
        Check.same("count(4)", x.count(4), 6);
        Check.same("end(3)", x.end(3), true);
        Check.same("count(4)", x.count(4), 3);
        Check.put(x, ";r4");
        Check.same("text(2)", x.text(2), 0);
        int[] digits = {1, 4};
        for (int i = 0; i < 2; i++) {
            Check.same("step(0, " + i + ", 1)", x.step(0, i, 1), digits[i]);
        }
        Check.bound(3, "False: n");
        TrapCorner y = new TrapCorner();
        Check.same("end(1) of an empty tape", y.end(1), false);
        Check.same("end(-1) of an empty tape", y.end(-1), false);
        Check.put(y, "d;d");
        int[] wrong = {-1, 4, 240, 241, Integer.MIN_VALUE, Integer.MAX_VALUE};
        for (int n : wrong) {
            Check.same("end(" + n + ")", y.end(n), false);
        }
        Check.same("count(4)", y.count(4), 3);
        Check.same("fault(2)", y.fault(2), -1);
        Check.same("end(1)", y.end(1), true);
        Check.same("end(3), what is gone does not come back", y.end(3), false);
        Check.bound(3, "n 0: the TAPE is empty");
        Check.same("end(0)", y.end(0), true);
        Check.same("count(4)", y.count(4), 0);
        Check.same("end(0) of an empty tape", y.end(0), true);
        TrapCorner z = blanks(240);
        Check.same("end(241) of a full tape", z.end(241), false);
        Check.same("end(240) of a full tape", z.end(240), true);
    }

    private static void sorts() {
        Check.bound(4, "-2: no such sort");
        int[] none = {-1, 3, -2, Integer.MIN_VALUE, Integer.MAX_VALUE};
        for (int sort : none) {
            Check.faults(sort, "", -2);
            Check.faults(sort, "c;c;p", -2);
        }
        Check.bound(4, "a CITY (0), a LAW (1), a PLAN (2); NONE: none");
        Check.faults(0, "c;c;p", -1);
        Check.faults(1, "c;c;p", 0);
        Check.faults(2, "c;c;p", 0);
        Check.faults(0, "y:1", 0);
        Check.faults(1, "y:1", -1);
        Check.faults(2, "y:1", 0);
        Check.faults(0, "s1", 1);
        Check.faults(1, "s1", 0);
        Check.faults(2, "s1", -1);
    }

    private static void tooEarly() {
        Check.bound(4, "the length, if it ends too early");
        for (int sort = 0; sort < 3; sort++) {
            Check.faults(sort, "", 0);
            Check.faults(sort, " ", 1);
            Check.faults(sort, "   ", 3);
        }
        Check.faults(0, "c;c;p;", 6);
        Check.faults(0, "c;c;p; ", 7);
        Check.faults(0, "c;c;pm", 6);
        Check.faults(0, "c;c;pm  ", 8);
        Check.faults(1, "y", 1);
        Check.faults(1, "y:", 2);
        Check.faults(1, "y: ", 3);
        Check.faults(1, "y:1;", 4);
        Check.faults(1, "y:1;y", 5);
        Check.faults(1, "y:1+", 4);
        Check.faults(1, "y:1*", 4);
        Check.faults(1, "y:[1", 4);
        Check.faults(1, "y:m=", 4);
        Check.faults(1, "y:m=1", 5);
        Check.faults(1, "y:m=1&", 6);
        Check.faults(1, "y:m=1|", 6);
        Check.faults(1, "y:m=1?", 6);
        Check.faults(1, "y:!", 3);
        Check.faults(1, "y:(", 3);
        Check.faults(1, "y:(m=1", 6);
        Check.faults(1, "y:(m=1)", 7);
        Check.faults(2, "k", 1);
        Check.faults(2, "k1", 2);
        Check.faults(2, "k1 ", 3);
        Check.faults(2, "s", 1);
        Check.faults(2, "r", 1);
        Check.faults(2, "d;", 2);
        Check.bound(4, "the length, with fewer than two CORNERS");
        Check.faults(0, "p", 1);
        Check.faults(0, "s;p", 3);
        Check.faults(0, "c;p", 3);
        Check.faults(0, "ck1s3;pm1 ", 10);
        Check.faults(0, "c;p;c", -1);
        Check.bound(4, "the length, with nobody");
        Check.faults(0, "c;c", 3);
        Check.faults(0, "c;c;c;c;c;s", 11);
        Check.faults(0, "c;c ", 4);
    }

    private static void clausesOfCity() {
        Check.bound(4, "a second s at it");
        Check.faults(0, "s;s", 2);
        Check.faults(0, "st9;  s;c;c;p", 6);
        Check.faults(0, "s;c;c;p;s", 8);
        Check.faults(0, "c;c;p;s;p;st0", 10);
        Check.faults(0, "c;c;p;s", -1);
        Check.bound(4, "CORNERS 2 .. 5: a sixth c at it");
        Check.faults(0, "p;c;c", -1);
        Check.faults(0, "p;c;c;c;c;c", -1);
        Check.faults(0, "c;c;c;c;c;c", 10);
        Check.faults(0, "c;p;c;c;s;c;c; c", 15);
        Check.bound(4, "PEOPLE 1 .. 6: a seventh p at it");
        Check.faults(0, "c;c;p", -1);
        Check.faults(0, "c;c;p;p;p;p;p;p", -1);
        Check.faults(0, "c;c;p;p;p;p;p;p;p", 16);
        Check.faults(0, "p;p;p;p;p;p;p", 12);
        Check.faults(0, "p;p;c;p;p;c;p;p; p", 17);
        Check.bound(4, "five CORNERS, six PEOPLE and RULES: all that there can be");
        Check.faults(0, "c;c;c;c;c;p;p;p;p;p;p;s", -1);
        Check.faults(0, "c;c;c;c;c;p;p;p;p;p;p;s;", 24);
        Check.faults(0, "c;c;c;c;c;p;p;p;p;p;p;s;c", 24);
        Check.faults(0, "c;c;c;c;c;p;p;p;p;p;p;s;p", 24);
        Check.faults(0, "c;c;c;c;c;p;p;p;p;p;p;s;s", 24);
        Check.bound(4, "CLAUSES with ; between: an empty one is none");
        Check.faults(0, ";c;c;p", 0);
        Check.faults(0, "c;;c;p", 2);
        Check.faults(0, "c; ;c;p", 3);
        Check.faults(0, "c c", 2);
        Check.faults(0, "c,c", 1);
    }

    private static void cornersOfPeople() {
        Check.bound(4, "the length, with one whose CORNERS are not told");
        String corners = "c";
        for (int n = 2; n <= 5; n++) {
            corners += ";c";
            Check.faults(0, corners + ";pa" + (n - 1) + "b0", -1);
            Check.faults(0, corners + ";pa0b" + (n - 1), -1);
            if (n < 5) {
                String a = corners + ";pa" + n + "b0";
                Check.faults(0, a, a.length());
                Check.faults(0, a + ";c", -1);
                String b = corners + ";pa0b" + n;
                Check.faults(0, b, b.length());
                Check.faults(0, b + ";c", -1);
            }
        }
        Check.faults(0, "pa2b0;c;c", 9);
        Check.faults(0, "pa2b0;c;c;c", -1);
        Check.bound(4, "the length, with one whose CORNERS are alike");
        Check.faults(0, "c;c;pa0b0", 9);
        Check.faults(0, "c;c;pa1b1", 9);
        Check.faults(0, "c;c;pa1b01", 10);
        Check.faults(0, "c;c;c;c;c;pa4b4", 15);
        Check.bound(4, "they are alike by what is so without, too");
        Check.faults(0, "c;c;pa1", 7);
        Check.faults(0, "c;c;pb0", 7);
        Check.faults(0, "c;c;pa1b0", -1);
        Check.faults(0, "c;c;pb1", -1);
        Check.faults(0, "c;c;pa0", -1);
        Check.bound(4, "one of several is enough");
        Check.faults(0, "pa1;c;c;p;p;p;p;p", 17);
        Check.faults(0, "p;p;p;c;c;p;p;pa1", 17);
        Check.faults(0, "p;p;p;c;c;p;p;pb2", 17);
        Check.bound(4, "a byte ahead of the length at which it can't go on comes first");
        Check.faults(0, "c;c;pa1;x", 8);
        Check.faults(0, "c;pb2;z", 6);
    }

    private static String cityWith(String[] item, String number) {
        String text = item[0] + item[1] + number;
        String other = item[1].equals("a") ? "b" + (Integer.parseInt(number) == 0 ? 1 : 0)
                : item[1].equals("b") ? "a" + (Integer.parseInt(number) == 0 ? 1 : 0) : "";
        return text + other + ";c;c;c;c" + (item[0].equals("c") ? ";p" : ";c" + (item[0].equals("p") ? "" : ";p"));
    }

    private static int told(TrapCorner x, String[] item) {
        int what = item[0].equals("s") ? "tco".indexOf(item[1]) : item[0].equals("c") ? "ks".indexOf(item[1])
                : "mgwabr".indexOf(item[1]);
        return item[0].equals("s") ? x.rule(what) : item[0].equals("c") ? x.corner(0, what) : x.person(0, what);
    }

    private static void itemsWithinBounds() {
        for (String[] item : ITEMS) {
            Check.bound(5, item[1] + " of " + item[0] + " from " + item[2] + " to " + item[3]);
            for (int n = Integer.parseInt(item[2]); n <= Integer.parseInt(item[3]); n++) {
                Check.same(item[1] + n, told(Check.city(cityWith(item, "" + n)), item), n);
                if (n < 10) {
                    Check.same(item[1] + "0" + n, told(Check.city(cityWith(item, "0" + n)), item), n);
                }
            }
            Check.bound(5, item[1] + " of " + item[0] + " without: " + item[4]);
            String rules = item[0].equals("s") ? "s;" : "";
            Check.same("without " + item[1], told(Check.city(rules + "c;c;p"), item), Integer.parseInt(item[4]));
            Check.same("without any s", told(Check.city("c;c;p"), item), Integer.parseInt(item[4]));
        }
        Check.bound(5, "all ITEMS of a CLAUSE, in any order");
        TrapCorner x = Check.city("so9c99t30;cs0k3;ck0s9;pr1b0a1w9g0m3;pg9r0m1w0b1a0");
        int[][] due = {{30, 99, 9}, {3, 0, 0, 9}, {3, 0, 9, 1, 0, 1, 0}, {1, 9, 0, 0, 1, 0, 0}};
        for (int i = 0; i < 3; i++) {
            Check.same("rule(" + i + ")", x.rule(i), due[0][i]);
        }
        for (int i = 0; i < 4; i++) {
            Check.same("corner(" + i / 2 + ", " + i % 2 + ")", x.corner(i / 2, i % 2), due[1][i]);
        }
        for (int i = 0; i < 14; i++) {
            Check.same("person(" + i / 7 + ", " + i % 7 + ")", x.person(i / 7, i % 7), due[2 + i / 7][i % 7]);
        }
        Check.bound(5, "what one CLAUSE tells is not told in the next one");
        TrapCorner y = Check.city("ck3s9;c;pm3g9w9a1b0r1;p");
        Check.same("crumb", y.corner(1, 0), 0);
        Check.same("spring", y.corner(1, 1), 5);
        int[] usual = {1, 4, 2, 0, 1, 0, 0};
        for (int i = 0; i < 7; i++) {
            Check.same("person(1, " + i + ")", y.person(1, i), usual[i]);
        }
    }

    private static void itemsOutOfBounds() {
        for (String[] item : ITEMS) {
            String head = item[0] + item[1];
            Check.bound(4, item[1] + " of " + item[0] + " out of bounds is wrong at its last digit");
            if (item[2].equals("1")) {
                Check.faults(0, head + "0;c;c;p", 2);
                Check.faults(0, head + "00;c;c;p", 3);
                Check.faults(0, head + "0", 2);
                Check.faults(0, head + " 0 ", 3);
            }
            int most = Integer.parseInt(item[3]);
            for (int n = most + 1; n < 100; n++) {
                Check.faults(0, head + n + ";c;c;p", n < 10 ? 2 : 3);
            }
            if (most < 9) {
                Check.faults(0, head + "0" + (most + 1), 3);
                Check.faults(0, head + " " + (most + 1) + " ", 3);
            }
        }
    }

    private static void thirdDigits() {
        for (String[] item : ITEMS) {
            String head = item[0] + item[1];
            Check.bound(4, "a third digit of " + item[1] + " of " + item[0] + " itself, whatever stands ahead of it");
            Check.faults(0, head + "001;c;c;p", 4);
            Check.faults(0, head + "010;c;c;p", 4);
            Check.faults(0, head + "000", 4);
            Check.faults(0, head + "999", 4);
            Check.faults(0, head + "9999", 4);
            Check.faults(0, head + " 991 ", 5);
        }
    }

    private static void letters() {
        for (String[] item : ITEMS) {
            Check.bound(4, "the letter " + item[1] + " that was there in a CLAUSE of " + item[0]);
            String once = item[0] + item[1] + item[2];
            Check.faults(0, once + item[1], 3);
            Check.faults(0, once + item[1] + item[2], 3);
            Check.faults(0, once + "  " + item[1] + item[2], 5);
            for (String[] other : ITEMS) {
                if (other[0].equals(item[0]) && !other[1].equals(item[1])) {
                    Check.faults(0, once + other[1] + other[2] + item[1] + item[2], 5);
                }
            }
        }
        Check.bound(4, "in another CLAUSE the letter may be there again");
        Check.faults(0, "ck1s1;ck1s1;pm1g1w1a0b1r1;pm1g1w1a0b1r1", -1);
        Check.bound(4, "a letter of another CLAUSE can't be");
        for (String[] item : ITEMS) {
            for (String clause : new String[] {"s", "c", "p"}) {
                boolean own = false;
                for (String[] i : ITEMS) {
                    own = own || i[0].equals(clause) && i[1].equals(item[1]);
                }
                if (!own) {
                    Check.faults(0, clause + item[1] + "1", 1);
                }
            }
        }
        Check.bound(4, "a letter and a number: one without the other can't be");
        Check.faults(0, "sto1", 2);
        Check.faults(0, "st;c", 2);
        Check.faults(0, "s1", 1);
        Check.faults(0, "ck1 2", 4);
        Check.faults(0, "ck-1", 2);
        Check.faults(0, "cK1", 1);
    }

    private static void blanksOfCity() {
        Check.bound(4, "blanks may stand between all signs of a CITY");
        Check.faults(0, "  s  t  9  c  7  o  4  ;  c  k  1  s  2  ;  c  ;  p  m  1  ", -1);
        Check.bound(4, "blanks may not stand within numbers of a CITY");
        Check.faults(0, "st1 0;c;c;p", 4);
        Check.faults(0, "sc9  9;c;c;p", 5);
        Check.faults(0, "st0 9", 2);
        Check.bound(4, "a blank is 32 alone");
        int[] others = {1, 9, 10, 13, 31, 33, 127, 128, 160, 255};
        for (int b : others) {
            Check.faults(0, (char) b + "c;c;p", 0);
            Check.faults(0, "c;c;p" + (char) b, 5);
            Check.faults(1, "y" + (char) b + ":1", 1);
            Check.faults(2, "k" + (char) b + "11", 1);
        }
    }

    private static void clausesOfLaw() {
        Check.bound(4, "CLAUSES of a LAW with ; between, one at least");
        Check.faults(1, "y:1", -1);
        Check.faults(1, ";y:1", 0);
        Check.faults(1, "y:1;;y:1", 4);
        Check.faults(1, "y:1y:1", 3);
        String most = "y:1";
        for (int i = 1; i < 60; i++) {
            most += ";y:1";
        }
        Check.faults(1, most, -1);
        Check.faults(1, most + ";", 240);
        Check.bound(4, "y, : , perhaps CONDITION ?, then SUM");
        Check.faults(1, "Y:1", 0);
        Check.faults(1, "y1", 1);
        Check.faults(1, "y::1", 2);
        Check.faults(1, "y:?1", 2);
        Check.faults(1, "y:m?1", 3);
        Check.faults(1, "y:m=1?1?1", 7);
        Check.faults(1, "y:m=1?m=1", 7);
        Check.faults(1, "y:m=1?(1)", 6);
        Check.faults(1, "y:m=1?!1", 6);
        Check.bound(4, "a CLAUSE that goes on with ! or ( behind its : has a CONDITION");
        Check.faults(1, "y:!m", 4);
        Check.faults(1, "y:!m+1", 6);
        Check.faults(1, "y:!m;", 4);
        Check.faults(1, "y:!m=1", 6);
        Check.faults(1, "y:(m)", 4);
        Check.faults(1, "y:(m=1);", 7);
        Check.faults(1, "y:(m=1)+1", 7);
        Check.faults(1, "y:(1)*2", 4);
    }

    private static void numbersOfLaw() {
        Check.bound(4, "a number of 1 to 4 digits, a fifth one in a LAW itself");
        Check.faults(1, "y:0", -1);
        Check.faults(1, "y:9999", -1);
        Check.faults(1, "y:0000", -1);
        Check.faults(1, "y:00000", 6);
        Check.faults(1, "y:99999", 6);
        Check.faults(1, "y:123456", 6);
        Check.faults(1, "y:1+12345", 8);
        Check.faults(1, "y:m=12345?1", 8);
        Check.faults(1, "y:[12345]", 7);
        Check.bound(4, "a letter m g w s n d, no other one");
        for (char c = 'a'; c <= 'z'; c++) {
            boolean known = "mgwsnd".indexOf(c) >= 0;
            Check.faults(1, "y:" + c, known ? -1 : 2);
            Check.faults(1, "y:1+" + c, known ? -1 : 4);
        }
        Check.faults(1, "y:M", 2);
        Check.faults(1, "y:mm", 3);
        Check.faults(1, "y:1m", 3);
        Check.faults(1, "y:m1", 3);
        Check.bound(4, "ATOMS and TERMS with a sign between: none ahead, none behind, one alone");
        for (String sign : new String[] {"+", "-", "*", "/"}) {
            Check.faults(1, "y:1" + sign + "1", -1);
            Check.faults(1, "y:" + sign + "1", 2);
            Check.faults(1, "y:1" + sign, 4);
            Check.faults(1, "y:1" + sign + ";", 4);
            Check.faults(1, "y:1" + sign + sign + "1", 4);
            Check.faults(1, "y:[" + sign + "1]", 3);
            Check.faults(1, "y:[1" + sign + "]", 5);
        }
        Check.bound(4, "[ SUM ]: an empty one is none");
        Check.faults(1, "y:[]", 3);
        Check.faults(1, "y:[1", 4);
        Check.faults(1, "y:[1)", 4);
        Check.faults(1, "y:1]", 3);
        Check.faults(1, "y:[1]]", 5);
        Check.faults(1, "y:[1][1]", 5);
    }

    private static String times(String s, int n) {
        StringBuilder t = new StringBuilder();
        for (int i = 0; i < n; i++) {
            t.append(s);
        }
        return t.toString();
    }

    private static void nestingOfLaw() {
        Check.bound(4, "six of ( [ ! within one another, a seventh at it");
        Check.faults(1, "y:" + times("[", 6) + "1" + times("]", 6), -1);
        Check.faults(1, "y:" + times("[", 7) + "1" + times("]", 7), 8);
        Check.faults(1, "y:" + times("(", 6) + "1=1" + times(")", 6) + "?1", -1);
        Check.faults(1, "y:" + times("(", 7) + "1=1" + times(")", 7) + "?1", 8);
        Check.faults(1, "y:" + times("!", 6) + "1=1?1", -1);
        Check.faults(1, "y:" + times("!", 7) + "1=1?1", 8);
        Check.faults(1, "y:" + times("!", 7), 8);
        Check.faults(1, "y:" + times(" !", 7), 15);
        Check.bound(4, "they count together, whichever they are");
        String[] kinds = {"!", "(", "["};
        for (int mix = 0; mix < 64; mix++) {
            String ahead = "";
            String behind = "";
            for (int i = 0; i < 6; i++) {
                boolean round = (mix >> i & 1) == 1;
                ahead += round ? "(" : "!";
                behind = (round ? ")" : "") + behind;
            }
            Check.faults(1, "y:" + ahead + "1=1" + behind + "?1", -1);
            for (String seventh : kinds) {
                Check.faults(1, "y:" + ahead + seventh + "1", 8);
            }
            Check.faults(1, "y:" + ahead + "1=[1]" + behind + "?1", 10);
            String five = ahead.substring(0, 5);
            String open = behind.substring((mix >> 5 & 1) == 1 ? 1 : 0);
            Check.faults(1, "y:" + five + "[1]=[1]+[1]*[1]" + open + "?1", -1);
            Check.faults(1, "y:" + five + "[[1", 8);
        }
        Check.bound(4, "those side by side are not within one another");
        String deep = times("[", 6) + "1" + times("]", 6);
        Check.faults(1, "y:" + deep + "+" + deep + "*" + deep, -1);
        Check.faults(1, "y:" + deep + "=" + deep + "?" + deep + ";y:" + deep, -1);
        String units = times("!", 6) + "1=1";
        Check.faults(1, "y:" + units + "&" + units + "|" + units + "?1", -1);
        Check.faults(1, "y:" + units + "&!" + units + "?1", 18);
        Check.faults(1, "y:(!1=1)&(!1=1)&(!1=1)&(!1=1)?1", -1);
    }

    private static void conditionsOfLaw() {
        Check.bound(4, "UNIT: SUM, one of = < >, SUM");
        for (String sign : new String[] {"=", "<", ">"}) {
            Check.faults(1, "y:1" + sign + "1?1", -1);
            Check.faults(1, "y:" + sign + "1?1", 2);
            Check.faults(1, "y:1" + sign + "?1", 4);
            Check.faults(1, "y:1" + sign + sign + "1?1", 4);
            Check.faults(1, "y:1" + sign + "1" + sign + "1?1", 5);
            Check.faults(1, "y:1" + sign + "1;", 5);
            Check.faults(1, "y:1" + sign + "(1)?1", 4);
            Check.faults(1, "y:1" + sign + "!1?1", 4);
            Check.faults(1, "y:[1" + sign + "1]?1", 4);
        }
        Check.bound(4, "TRUTHS with | between, UNITS with & between");
        for (String sign : new String[] {"|", "&"}) {
            Check.faults(1, "y:1=1" + sign + "1=1?1", -1);
            Check.faults(1, "y:" + sign + "1=1?1", 2);
            Check.faults(1, "y:1=1" + sign + "?1", 6);
            Check.faults(1, "y:1=1" + sign + sign + "1=1?1", 6);
            Check.faults(1, "y:1" + sign + "1=1?1", 3);
            Check.faults(1, "y:1=1" + sign + "1?1", 7);
            Check.faults(1, "y:1=1" + sign + "1;", 7);
            Check.faults(1, "y:(1=1" + sign + ")?1", 7);
        }
        Check.bound(4, "( CONDITION ): an empty one is none");
        Check.faults(1, "y:()?1", 3);
        Check.faults(1, "y:(1=1?1", 6);
        Check.faults(1, "y:(1=1]?1", 6);
        Check.faults(1, "y:1=1)?1", 5);
        Check.faults(1, "y:(1=1))?1", 7);
        Check.faults(1, "y:(1=1)(1=1)?1", 7);
        Check.faults(1, "y:(1=1)=1?1", 7);
        Check.faults(1, "y:1=1?1)", 7);
    }

    private static void blanksOfLaw() {
        Check.bound(4, "blanks may stand between all signs of a LAW");
        Check.faults(1, "  y  :  !  (  m  =  1  |  [  g  ]  >  2  )  ?  12  +  3  ;  y  :  1  ", -1);
        Check.bound(4, "blanks may not stand within numbers of a LAW");
        Check.faults(1, "y:1 2", 4);
        Check.faults(1, "y:123 4", 6);
        Check.faults(1, "y:1  2345", 5);
    }

    private static void stepsOfPlan() {
        Check.bound(4, "STEPS 1 to 16, the ; ahead of a 17th STEP at it");
        Check.faults(2, "d", -1);
        Check.faults(2, times("d;", 15) + "d", -1);
        Check.faults(2, times("d;", 16) + "d", 31);
        Check.faults(2, times("d;", 16), 31);
        Check.faults(2, times("d;", 15) + "d  ;d", 33);
        Check.faults(2, times("k12;", 15) + "k12", -1);
        Check.faults(2, times("k12;", 16) + "k12", 63);
        Check.faults(2, times("k12;", 15) + "k12x", 63);
        Check.faults(2, times("d;", 15), 30);
        Check.bound(4, "STEPS with ; between: an empty one is none");
        Check.faults(2, ";d", 0);
        Check.faults(2, "d;;d", 2);
        Check.faults(2, "d d", 2);
        Check.faults(2, "dd", 1);
        Check.faults(2, "d,d", 1);
        Check.bound(4, "d, k, s, r, no other one");
        for (char c = 'a'; c <= 'z'; c++) {
            int due = c == 'd' ? 1 : c == 'k' ? 3 : c == 's' || c == 'r' ? 2 : 0;
            Check.faults(2, c + "111", due);
        }
        Check.faults(2, "D", 0);
    }

    private static void digitsOfPlan() {
        Check.bound(4, "k and two digits, s and a digit, r and a digit");
        Check.faults(2, "k1", 2);
        Check.faults(2, "k1;", 2);
        Check.faults(2, "k123", 3);
        Check.faults(2, "k;", 1);
        Check.faults(2, "s;", 1);
        Check.faults(2, "s12", 2);
        Check.faults(2, "r;", 1);
        Check.faults(2, "r12", 2);
        Check.faults(2, "d1", 1);
        Check.faults(2, "k-1", 1);
        Check.bound(4, "what a STEP tells that is not there is no FAULT");
        for (int d = 0; d < 10; d++) {
            Check.faults(2, "s" + d + ";r" + d, -1);
            for (int e = 0; e < 10; e++) {
                Check.faults(2, "k" + d + e, -1);
            }
        }
    }

    private static void blanksOfPlan() {
        Check.bound(4, "blanks may stand between all signs of a PLAN, between digits of a STEP, too");
        Check.faults(2, "  k  1  2  ;  s  3  ;  r  4  ;  d  ", -1);
        Check.faults(2, "k 1  2 3", 7);
        Check.faults(2, "s 1 2", 4);
    }

    private static void textIsRefused() {
        Check.bound(5, "NONE: a FAULT, and the TAPE is as it was");
        String[] wrong = {"c;c", "y:", "d;"};
        for (int sort = 0; sort < 3; sort++) {
            TrapCorner x = new TrapCorner();
            Check.put(x, wrong[sort]);
            Check.same("text(" + sort + ")", x.text(sort), -1);
            Check.same("count(4)", x.count(4), wrong[sort].length());
            Check.same("fault(" + sort + ")", x.fault(sort), wrong[sort].length());
            for (int i = 0; i < 4; i++) {
                Check.same("count(" + i + ")", x.count(i), 0);
            }
            Check.put(x, new String[] {";p", "7", "s1"}[sort]);
            Check.same("text(" + sort + ")", x.text(sort), sort == 0 ? 1 : 0);
        }
        Check.bound(5, "NONE: an empty TAPE");
        for (int sort = 0; sort < 3; sort++) {
            Check.same("text(" + sort + ")", new TrapCorner().text(sort), -1);
        }
        Check.bound(5, "NONE: no such sort");
        TrapCorner x = new TrapCorner();
        Check.put(x, "c;c;p");
        for (int sort : new int[] {-1, 3, -2, Integer.MIN_VALUE, Integer.MAX_VALUE}) {
            Check.same("text(" + sort + ")", x.text(sort), -1);
        }
        Check.same("count(4)", x.count(4), 5);
        Check.same("text(0)", x.text(0), 1);
    }

    private static void textIsTaken() {
        Check.bound(5, "how many PEOPLE, the TAPE is empty then");
        String text = "c;c";
        for (int n = 1; n <= 6; n++) {
            text += ";p";
            TrapCorner x = new TrapCorner();
            Check.put(x, text);
            Check.same("text(0) of " + n, x.text(0), n);
            Check.same("count(0)", x.count(0), n);
            Check.same("count(4)", x.count(4), 0);
            Check.same("text(0) again", x.text(0), -1);
        }
        Check.bound(5, "as many CORNERS as are told");
        text = "p;c";
        for (int n = 2; n <= 5; n++) {
            text += ";c";
            TrapCorner x = Check.city(text);
            Check.same("count(1)", x.count(1), n);
            Check.same("the last", x.corner(n - 1, 1), 5);
            Check.same("none behind it", x.corner(n, 1), -1);
        }
        Check.bound(5, "a TEXT of 240 bytes");
        TrapCorner x = new TrapCorner();
        Check.put(x, times(" ", 235) + "c;c;p");
        Check.same("a city", x.text(0), 1);
        Check.put(x, "y:" + times("1+", 118) + "12");
        Check.same("a law", x.text(1), 0);
        x.law(0);
        Check.same("pulled(0, 0): 118 and 12, held within 40", x.pulled(0, 0), 40);
        Check.put(x, "y:" + times("1-", 118) + "12");
        Check.same("a law", x.text(1), 1);
        Check.put(x, "y:m=1?" + times("1*", 116) + "12");
        Check.same("count(4)", x.count(4), 240);
        Check.same("a law", x.text(1), 2);
        Check.put(x, "y:" + times("0+", 118) + "12");
        Check.same("a law", x.text(1), 3);
        x.law(3);
        Check.same("pulled(0, 0)", x.pulled(0, 0), 12);
        Check.put(x, times(" ", 237) + "k45");
        Check.same("a plan", x.text(2), 0);
        Check.same("step(0, 0, 2)", x.step(0, 0, 2), 5);
    }

    private static void fourLawsAndPlans() {
        Check.bound(5, "a LAW: its number, four at most");
        TrapCorner x = Check.city("c;c;p");
        for (int i = 0; i < 4; i++) {
            Check.same("law " + i, Check.tell(x, 1, "y:" + (11 + i)), i);
        }
        Check.same("a fifth one", Check.tell(x, 1, "y:20"), -1);
        Check.same("count(2)", x.count(2), 4);
        Check.same("count(4): the tape is as it was", x.count(4), 4);
        for (int i = 0; i < 4; i++) {
            x.law(i);
            Check.same("pulled by law " + i, x.pulled(0, 0), 11 + i);
        }
        Check.same("law(4)", x.law(4), false);
        Check.bound(5, "a PLAN: its number, four at most");
        for (int i = 0; i < 4; i++) {
            Check.same("plan " + i, Check.tell(x, 2, "s" + i), i);
        }
        Check.same("a fifth one", Check.tell(x, 2, "s9;d"), -1);
        Check.same("count(3)", x.count(3), 4);
        Check.same("count(4): the tape is as it was", x.count(4), 4);
        for (int i = 0; i < 4; i++) {
            Check.same("step(" + i + ", 0, 1)", x.step(i, 0, 1), i);
        }
        Check.same("step(4, 0, 1)", x.step(4, 0, 1), Check.HIDDEN);
        Check.bound(5, "with four LAWS and PLANS another CITY can be told still");
        Check.same("text(0)", Check.tell(x, 0, "c;c;p;p"), 2);
        Check.bound(4, "with four the FAULT is told still");
        Check.put(x, "y:1;");
        Check.same("fault(1)", x.fault(1), 4);
        x.end(3);
        Check.same("fault(1)", x.fault(1), -1);
        Check.same("text(1)", x.text(1), -1);
    }

    private static TrapCorner lived() {
        TrapCorner x = Check.city(Check.HOME);
        Check.tell(x, 1, "y:40");
        Check.tell(x, 1, "y:30");
        Check.tell(x, 2, "d;k01");
        x.law(1);
        x.dogs(7);
        x.day();
        x.constable(2);
        x.seen(0, 1, 1, false);
        x.image();
        x.give(9);
        return x;
    }

    private static void anotherCity() {
        Check.bound(5, "another CITY: DAY 0, no CONSTABLE");
        TrapCorner x = lived();
        Check.same("text(0)", Check.tell(x, 0, "c;c;pw3"), 1);
        Check.same("count(6)", x.count(6), 0);
        Check.same("count(8)", x.count(8), -1);
        Check.same("constable(0): he was nowhere", x.constable(0), -1);
        Check.bound(5, "all that was of another one is gone, SEEN, too");
        x = lived();
        Check.tell(x, 0, "c;c;pw3");
        int[] gone = {7, 10, 11, 12};
        for (int what : gone) {
            Check.same("count(" + what + ")", x.count(what), 0);
        }
        Check.same("undo()", x.undo(), -1);
        Check.same("back()", x.back(), -1);
        Check.same("log(0, 0)", x.log(0, 0), -1);
        Check.same("coins", x.rule(1), 20);
        Check.same("times", x.person(0, 6), 0);
        Check.same("wary", x.person(0, 2), 3);
        Check.same("moves(0, -1)", x.moves(0, -1), 30);
        Check.bound(5, "but LAWS, which holds, PLANS, DOGS");
        int[][] kept = {{2, 2}, {3, 1}, {5, 1}, {9, 7}};
        for (int[] k : kept) {
            Check.same("count(" + k[0] + ")", x.count(k[0]), k[1]);
        }
        Check.same("pulled by the law that holds", x.pulled(0, 0), 30);
        Check.same("step(0, 1, 2)", x.step(0, 1, 2), 1);
        Check.bound(5, "the same CITY told again is another one");
        x = lived();
        Check.same("text(0)", Check.tell(x, 0, Check.HOME), 3);
        Check.same("back()", x.back(), -1);
        Check.same("count(6)", x.count(6), 0);
        Check.bound(5, "a LAW or a PLAN that is told leaves the CITY as it was");
        x = lived();
        String before = Check.whole(x);
        before = before.substring(before.indexOf('c'));
        Check.tell(x, 1, "y:7");
        Check.tell(x, 2, "r0");
        String then = Check.whole(x);
        Check.same("as it was", then.substring(then.indexOf('c')).equals(before), true);
        Check.same("count(5): which holds", x.count(5), 1);
        Check.same("count(10)", x.count(10), 1);
        Check.same("undo()", x.undo(), 2);
        Check.same("back()", x.back(), 1);
    }

    private static void steps() {
        Check.bound(20, "0 what, 1 its digit (NONE), 2 the second one (NONE)");
        TrapCorner x = new TrapCorner();
        Check.tell(x, 2, "d;k09;s0;r0");
        Check.tell(x, 2, "k90;s9;r9;d");
        int[][][] due = {{{0, -1, -1}, {1, 0, 9}, {2, 0, -1}, {3, 0, -1}}, {{1, 9, 0}, {2, 9, -1}, {3, 9, -1}, {0, -1, -1}}};
        for (int plan = 0; plan < 2; plan++) {
            for (int i = 0; i < 4; i++) {
                for (int what = 0; what < 3; what++) {
                    Check.same("step(" + plan + ", " + i + ", " + what + ")", x.step(plan, i, what), due[plan][i][what]);
                }
            }
        }
        Check.bound(20, "HIDDEN: no such STEP");
        int[] none = {-1, 4, Integer.MIN_VALUE, Integer.MAX_VALUE};
        for (int i : none) {
            Check.same("step(0, " + i + ", 0)", x.step(0, i, 0), Check.HIDDEN);
        }
        Check.bound(20, "HIDDEN: no such what");
        for (int what : new int[] {-1, 3, Integer.MIN_VALUE, Integer.MAX_VALUE}) {
            Check.same("step(0, 0, " + what + ")", x.step(0, 0, what), Check.HIDDEN);
            Check.same("step(0, 1, " + what + ")", x.step(0, 1, what), Check.HIDDEN);
        }
        Check.bound(20, "HIDDEN: no such PLAN");
        for (int plan : new int[] {-1, 2, 3, 4, Integer.MIN_VALUE, Integer.MAX_VALUE}) {
            Check.same("step(" + plan + ", 0, 0)", x.step(plan, 0, 0), Check.HIDDEN);
        }
        Check.same("step(0, 0, 0) of a new object", new TrapCorner().step(0, 0, 0), Check.HIDDEN);
        Check.bound(20, "of 16 STEPS the first and the last");
        Check.tell(x, 2, "s1;" + times("d;", 14) + "r8");
        Check.same("step(2, 0, 1)", x.step(2, 0, 1), 1);
        Check.same("step(2, 15, 1)", x.step(2, 15, 1), 8);
        Check.same("step(2, 16, 0)", x.step(2, 16, 0), Check.HIDDEN);
        Check.bound(20, "any two digits");
        Check.tell(x, 2, "k99;k98;k89;k88;k00;k10;k01;k11");
        int[] pairs = {99, 98, 89, 88, 0, 10, 1, 11};
        for (int i = 0; i < pairs.length; i++) {
            Check.same("step(3, " + i + ", 0)", x.step(3, i, 0), 1);
            Check.same("step(3, " + i + ", 1)", x.step(3, i, 1), pairs[i] / 10);
            Check.same("step(3, " + i + ", 2)", x.step(3, i, 2), pairs[i] % 10);
        }
        Check.bound(20, "a CITY is not needed, and another one changes nothing");
        Check.tell(x, 0, "c;c;p");
        Check.same("step(1, 0, 1)", x.step(1, 0, 1), 9);
    }
}
