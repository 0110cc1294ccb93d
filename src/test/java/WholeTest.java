/** Promises 37 to 40: what holds of all, kinds, needs, shares. */
public final class WholeTest {
    public static void main(String[] args) {
        promise37places();
        promise37people();
        promise37days();
        promise37refused();
        promise38kinds();
        promise39needs();
        promise40shares();
        Check.close();
    }

    private static void promise37places() {
        TrapCorner x = Check.city(Check.HOME);
        Check.same("busiest: 1 and 2 by two each", x.all(0), 1);
        Check.same("strongest", x.all(1), 2);
        Check.same("empty", x.all(7), 4);
        Check.same("laid", x.all(10), 2);
        x.about(0);
        // now 0, 1, 2 have the first alone, two, the second alone
        Check.same("busiest", x.all(0), 1);
        x.about(2);
        // the first to 0, the second to 1 and 2, the third to 0 and 1
        Check.same("busiest: 0 and 1 by two each", x.all(0), 0);
        x.crumb(2, 1);
        Check.same("empty", x.all(7), 0);
        Check.same("laid: two alike count once", x.all(10), 2);
        x.crumb(2, 3);
        Check.same("laid", x.all(10), 3);
        x.crumb(0, 0);
        x.crumb(1, 0);
        Check.same("empty", x.all(7), 3);
        Check.same("laid", x.all(10), 1);
        Check.same("strongest of several", Check.city("cs3;cs7;cs7;p").all(1), 1);
        Check.same("busiest, the last of five", Check.city("c;c;c;c;c;pa3b4;pa2b4").all(0), 4);
        Check.same("laid: nothing", Check.city("c;c;p").all(10), 0);
        Check.same("empty of five", Check.city("c;c;ck1;c;c;p").all(7), 27);
    }

    private static void promise37people() {
        TrapCorner x = Check.city("so1;c;c;c;ck1s9;pg4w3a0b1;pg9w5a1b2;pg9w5a2b3;pg0w0m2a2b3");
        Check.same("wariest of several", x.all(2), 1);
        Check.same("greediest of several", x.all(3), 1);
        Check.same("oldest, all alike", x.all(4), 0);
        Check.same("honest", x.all(5), 11);
        Check.same("old", x.all(6), 0);
        x.day();
        Check.same("wariest now", x.all(2), 2);
        Check.same("greediest", x.all(3), 1);
        Check.same("oldest", x.all(4), 2);
        Check.same("old", x.all(6), 4);
        x.crumb(1, 1);
        Check.same("honest", x.all(5), 10);
        x.about(0);
        // the first goes by 3, 2, 1 now
        Check.same("honest", x.all(5), 10);
        x.crumb(3, 2);
        Check.same("honest: the last is not any more", x.all(5), 6);
    }

    private static void promise37days() {
        TrapCorner x = Check.city("so1;c;ck1;ck2;pb2;pb2;pa2b0", "y:40");
        Check.same("taken", x.all(8), 3);
        Check.same("canes", x.all(9), 0);
        x.day();
        // both are old: the first springs both with his cane
        Check.same("taken", x.all(8), 0);
        Check.same("canes", x.all(9), 2);
        x.constable(2);
        Check.same("taken", x.all(8), 1);
        Check.same("canes", x.all(9), 1);
        Check.same("the day", x.count(6), 1);
    }

    private static void promise37refused() {
        TrapCorner x = Check.city(Check.HOME);
        Check.same("all(11)", x.all(11), -1);
        Check.same("all(-1)", x.all(-1), -1);
        Check.same("all of MAX", x.all(Integer.MAX_VALUE), -1);
        Check.same("all of MIN", x.all(Integer.MIN_VALUE), -1);
        for (int i = 0; i <= 10; i++) {
            Check.same("all(" + i + ") without a city", new TrapCorner().all(i), -1);
        }
    }

    private static void promise38kinds() {
        TrapCorner x = Check.city("c;c;pm1;pm3;pm3;p;pm2;pm3");
        Check.same("kinds(1)", x.kinds(1), 9);
        Check.same("kinds(2)", x.kinds(2), 16);
        Check.same("kinds(3)", x.kinds(3), 38);
        Check.same("kinds(0)", x.kinds(0), -1);
        Check.same("kinds(4)", x.kinds(4), -1);
        for (int wild : Check.WILD) {
            Check.same("kinds(wild)", x.kinds(wild), -1);
        }
        Check.same("kinds(2) of none", Check.city("c;c;p").kinds(2), 0);
        Check.same("kinds(1) without a city", new TrapCorner().kinds(1), -1);
    }

    private static void promise39needs() {
        TrapCorner x = Check.city(Check.HOME);
        Check.same("needs(0, 0): 8 + s - 2", x.needs(0, 0), 2);
        Check.same("needs(0, 1): s - 2", x.needs(0, 1), -1);
        Check.same("needs(1, 1): 6 + s - 1", x.needs(1, 1), 3);
        Check.same("needs(1, 2): s - 1", x.needs(1, 2), 9);
        Check.same("needs(2, 1): s", x.needs(2, 1), 8);
        x.day();
        Check.same("needs(0, 0) when he is more wary", x.needs(0, 0), 3);
        x.crumb(0, 0);
        Check.same("needs(0, 0) without his crumb", x.needs(0, 0), -1);
        Check.same("needs of 0", Check.city("ck1s9;c;pg5w0").needs(0, 0), 0);
        Check.same("needs by a law", Check.city("ck1s9;c;p", "y:s=4|s=6?40").needs(0, 0), 4);
        Check.same("needs(3, 0)", x.needs(3, 0), -1);
        Check.same("needs(0, 3)", x.needs(0, 3), -1);
        Check.same("needs(-1, 0)", x.needs(-1, 0), -1);
        Check.same("needs(0, -1)", x.needs(0, -1), -1);
        for (int wild : Check.WILD) {
            Check.same("needs(wild, 0)", x.needs(wild, 0), -1);
            Check.same("needs(0, wild)", x.needs(0, wild), -1);
        }
    }

    private static void promise40shares() {
        TrapCorner x = Check.city(Check.HOME);
        Check.same("shares(0, 18)", x.shares(0, 18), 5);
        Check.same("shares(1, 18)", x.shares(1, 18), 4);
        Check.same("shares(2, 18)", x.shares(2, 18), 9);
        Check.same("shares(0, 999)", x.shares(0, 999), 277);
        Check.same("shares(2, 1)", x.shares(2, 1), 0);
        Check.same("shares(2, 2)", x.shares(2, 2), 1);
        Check.same("shares(0, 0)", x.shares(0, 0), 0);
        Check.same("shares(0, 1000)", x.shares(0, 1000), -1);
        Check.same("shares(0, -1)", x.shares(0, -1), -1);
        Check.same("shares(0, MAX)", x.shares(0, Integer.MAX_VALUE), -1);
        Check.same("shares(0, MIN)", x.shares(0, Integer.MIN_VALUE), -1);
        Check.same("shares(3, 1)", x.shares(3, 1), -1);
        Check.same("shares(-1, 1)", x.shares(-1, 1), -1);
        for (int wild : Check.WILD) {
            Check.same("shares(wild, 1)", x.shares(wild, 1), -1);
        }
        Check.same("shares with no springs", Check.city("cs0;cs0;p").shares(1, 9), 0);
        x.renew(0);
        Check.same("shares(0, 19) now", x.shares(0, 19), 6);
    }
}
