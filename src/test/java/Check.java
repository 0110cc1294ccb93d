import java.util.NoSuchElementException;

/** What the tests share: comparing answers, and telling texts to an object. */
final class Check {
    /** Three corners, three people; the city of most tests. */
    static final String HOME = "st8c20o2;ck1s5;ck2s4;ck0s9;pm1g4w2a1b0;pm2g3w1a0b2;pm2g0w0a2b1r1";
    static final int NONE = TrapCorner.NONE;
    static final int HIDDEN = TrapCorner.HIDDEN;
    /** Numbers that are no corner, person, law, plan or kind of any city. */
    static final int[] WILD = {-2, -1000000, Integer.MIN_VALUE, 7, 1000, Integer.MAX_VALUE};

    private static int wrong;
    private static int right;
    private static int bounds;
    private static String bound = "";

    private Check() {
    }

    /** Names the sentence of the document that the checks behind it are of. */
    static void bound(int promise, String sentence) {
        bound = "promise " + promise + ", " + sentence + ": ";
        bounds++;
    }

    static void same(String what, long got, long want) {
        if (got == want) {
            right++;
        } else {
            wrong++;
            System.out.println(bound + what + " answered " + got + ", due is " + want);
        }
    }

    static void same(String what, boolean got, boolean want) {
        same(what, got ? 1 : 0, want ? 1 : 0);
    }

    static void noSuchElement(TrapCorner x, int person, int what) {
        boolean thrown = false;
        try {
            x.person(person, what);
        } catch (NoSuchElementException e) {
            thrown = true;
        }
        same("person(" + person + ", " + what + ") throws", thrown, true);
    }

    /** Feeds a text behind what the tape has. */
    static void put(TrapCorner x, String text) {
        for (int from = 0; from < text.length(); from += 20) {
            int[] five = new int[5];
            for (int i = 0; i < 20 && from + i < text.length(); i++) {
                five[i / 4] |= (text.charAt(from + i) & 255) << 24 - 8 * (i % 4);
            }
            x.feed(five[0], five[1], five[2], five[3], five[4]);
        }
    }

    static int tell(TrapCorner x, int sort, String text) {
        x.end(0);
        put(x, text);
        return x.text(sort);
    }

    static TrapCorner city(String text) {
        TrapCorner x = new TrapCorner();
        if (tell(x, 0, text) == NONE) {
            same("text(0) of " + text, NONE, 0);
        }
        return x;
    }

    /** A city whose people are pulled by a law. */
    static TrapCorner city(String text, String law) {
        TrapCorner x = city(text);
        same("text(1) of " + law, tell(x, 1, law), 0);
        same("law(0)", x.law(0), true);
        return x;
    }

    static void faults(int sort, String text, int want) {
        TrapCorner x = new TrapCorner();
        put(x, text);
        same("fault(" + sort + ") of '" + text + "'", x.fault(sort), want);
        same("count(4) then", x.count(4), text.length());
    }

    /** All that can be told of an object without changing it, but for its texts. */
    static String whole(TrapCorner x) {
        StringBuilder s = new StringBuilder();
        for (int i = 0; i <= 12; i++) {
            s.append(x.count(i)).append(' ');
        }
        for (int i = 0; i < x.count(1); i++) {
            s.append("c").append(x.corner(i, 0)).append(',').append(x.corner(i, 1));
        }
        for (int i = 0; i < x.count(0); i++) {
            s.append(" p");
            for (int k = 0; k <= 6; k++) {
                s.append(x.person(i, k)).append(',');
            }
        }
        s.append(" r").append(x.rule(0)).append(',').append(x.rule(1)).append(',').append(x.rule(2)).append(" l");
        for (int i = 0; i < x.count(11); i++) {
            s.append(x.log(i, 0)).append(',').append(x.log(i, 1)).append(',').append(x.log(i, 2)).append(';');
        }
        return s.toString();
    }

    static void unchanged(String what, TrapCorner x, String before) {
        same(what + " leaves all as it was", whole(x).equals(before), true);
    }

    static void close() {
        System.out.println(right + " answers as due, " + wrong + " not" + (bounds > 0 ? ", of " + bounds + " bounds" : ""));
        if (wrong > 0) {
            System.exit(1);
        }
    }
}
