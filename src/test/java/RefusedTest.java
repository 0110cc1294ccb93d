import java.util.List;
import java.util.function.Consumer;
import java.util.function.ToLongFunction;

/** Each call that the document refuses: what it answers, and that all later calls answer as if it had not been made. */
public final class RefusedTest {
    private static final int MIN = Integer.MIN_VALUE;
    private static final int MAX = Integer.MAX_VALUE;
    private static final long THROWN = Twins.THROWN;
    private static final int HIDDEN = TrapCorner.HIDDEN;

    /** An object as it is made. */
    private static final Consumer<TrapCorner> BARE = x -> {
    };
    /** Texts, but no city. */
    private static final Consumer<TrapCorner> LAWFUL = x -> {
        Check.tell(x, 1, "y:m*9+s");
        Check.tell(x, 2, "d;k21;s1;r0;d");
        x.law(0);
        Check.put(x, "c;ck1");
    };
    /** A city that has lived, with something of all that an object can hold. */
    private static final Consumer<TrapCorner> LIVED = x -> {
        Check.tell(x, 1, "y:m*9+s");
        Check.tell(x, 1, "y:5");
        Check.tell(x, 2, "d;k21;s1;r0;d");
        Check.tell(x, 2, "r0;k99");
        x.law(0);
        Check.tell(x, 0, Check.HOME);
        x.day();
        x.constable(1);
        x.image();
        x.crumb(2, 3);
        x.about(2);
        x.seen(0, 5, 1, true);
        x.seen(1, 3, 2, false);
        Check.put(x, "ck1;c;pa1");
    };
    /** All that has a most at its most. */
    private static final Consumer<TrapCorner> FULL = x -> {
        for (int i = 0; i < 4; i++) {
            Check.tell(x, 1, "y:m*9+s+" + i);
            Check.tell(x, 2, "d;r" + i);
        }
        Check.tell(x, 0, "sc99;cs9;cs9;p;p");
        for (int i = 0; i < 33; i++) {
            x.years(30, i);
        }
        x.image();
        x.years(9, 7);
        for (int i = 0; i < 18; i++) {
            x.give(50);
        }
        x.give(999 - Math.min(998, x.rule(1)));
        for (int i = 0; i < 10; i++) {
            x.seen(i % 2, 1 + i % 9, 1 + i % 3, i % 4 == 0);
        }
        Check.put(x, "y:1+2");
        for (int i = 0; i < 11; i++) {
            x.feed(0x20202020, 0x20202020, 0x20202020, 0x20202020, 0x20202020);
        }
        x.feed(0x20202020, 0x20202020, 0x20202020, 0x20202000, 0);
    };

    public static void main(String[] args) {
        makings();
        tape();
        texts();
        whatIs();
        settings();
        withoutCity();
        days();
        crumbs();
        springs();
        constableAndTurns();
        coins();
        years();
        undoAndImages();
        plans();
        whatWouldBe();
        sightings();
        games();
        whole();
        Check.close();
    }

    /** That the objects of these tests are what their names say. */
    private static void makings() {
        TrapCorner full = new TrapCorner();
        FULL.accept(full);
        int[] most = {2, 2, 4, 4, 240, -1, 999, full.count(7), -1, 2, 10, 60, 40};
        for (int i = 0; i < most.length; i++) {
            Check.same("count(" + i + ") of a full one", full.count(i), most[i]);
        }
        Check.same("coins of a full one", full.rule(1), 999);
        TrapCorner lived = new TrapCorner();
        LIVED.accept(lived);
        int[] some = {3, 3, 2, 2, 9, 0, 1, lived.count(7), 1, 2, 2, 1, 4};
        for (int i = 0; i < some.length; i++) {
            Check.same("count(" + i + ") of one that lived", lived.count(i), some[i]);
        }
        Check.same("an image", lived.back(), 1);
    }

    private static Consumer<TrapCorner> city(String text) {
        return x -> Check.tell(x, 0, text);
    }

    private static void refused(String what, Consumer<TrapCorner> making, ToLongFunction<TrapCorner> call, long due) {
        Twins.refused(what, making, call, due);
    }

    private static long bit(boolean b) {
        return b ? 1 : 0;
    }

    private static void tape() {
        Check.bound(2, "NONE: more than 240, and nothing changes");
        refused("feed of one to 240", FULL, x -> x.feed(0, 0, 0, 0, 1), -1);
        refused("feed of twenty to 240", FULL, x -> x.feed(-1, -1, -1, -1, -1), -1);
        refused("feed of one to 240, the first", FULL, x -> x.feed(1 << 24, 0, 0, 0, 0), -1);
        Check.bound(3, "False: n, and nothing changes");
        for (int n : new int[] {-1, 10, 240, 241, MIN, MAX}) {
            refused("end(" + n + ")", LIVED, x -> bit(x.end(n)), 0);
        }
        refused("end(241)", FULL, x -> bit(x.end(241)), 0);
        refused("end(1)", BARE, x -> bit(x.end(1)), 0);
        Check.bound(4, "-2: no such sort, and nothing changes");
        for (int sort : new int[] {-1, 3, MIN, MAX}) {
            refused("fault(" + sort + ")", LIVED, x -> x.fault(sort), -2);
        }
        Check.bound(4, "a FAULT that is told changes nothing");
        refused("fault(0)", LIVED, x -> x.fault(0), 9);
        refused("fault(1)", LIVED, x -> x.fault(1), 0);
        refused("fault(2)", LIVED, x -> x.fault(2), 0);
        refused("fault(1) of none", FULL, x -> x.fault(1), -1);
    }

    private static void texts() {
        Check.bound(5, "NONE: no such sort, and nothing changes");
        for (int sort : new int[] {-1, 3, MIN, MAX}) {
            refused("text(" + sort + ")", LIVED, x -> x.text(sort), -1);
        }
        Check.bound(5, "NONE: a FAULT, and nothing changes");
        for (int sort = 0; sort < 3; sort++) {
            int s = sort;
            refused("text(" + s + ")", LIVED, x -> x.text(s), -1);
            refused("text(" + s + ") of nothing", BARE, x -> x.text(s), -1);
            refused("text(" + s + ") without a city", LAWFUL, x -> x.text(s), -1);
        }
        String[] halves = {"st3c4o5;ck2s1;ck3s9;pm3g9w9a1b0r1;px", "y:7;y:", "k01;s2;d;"};
        for (int sort = 0; sort < 3; sort++) {
            int s = sort;
            refused("text(" + s + ") of a half", x -> {
                LIVED.accept(x);
                x.end(0);
                Check.put(x, halves[s]);
            }, x -> x.text(s), -1);
        }
        Check.bound(5, "NONE: there are four, and nothing changes");
        refused("a fifth law", FULL, x -> x.text(1), -1);
        refused("a fifth plan", x -> {
            FULL.accept(x);
            x.end(0);
            Check.put(x, "d;d");
        }, x -> x.text(2), -1);
    }

    private static void whatIs() {
        Check.bound(6, "NONE: no such what, and nothing changes");
        for (int what : new int[] {-1, 3, MIN, MAX}) {
            refused("rule(" + what + ")", LIVED, x -> x.rule(what), -1);
        }
        Check.bound(7, "NONE: no such ones, and nothing changes");
        for (int k : new int[] {-1, 3, MIN, MAX}) {
            refused("corner(" + k + ", 0)", LIVED, x -> x.corner(k, 0), -1);
            refused("corner(0, " + k + ")", LIVED, x -> x.corner(0, k), -1);
        }
        refused("corner(0, 2)", LIVED, x -> x.corner(0, 2), -1);
        Check.bound(8, "NoSuchElementException: no such ones, and nothing changes");
        for (int k : new int[] {-1, 7, MIN, MAX}) {
            refused("person(" + k + ", 0)", LIVED, x -> x.person(k, 0), THROWN);
            refused("person(0, " + k + ")", LIVED, x -> x.person(0, k), THROWN);
        }
        refused("person(3, 0)", LIVED, x -> x.person(3, 0), THROWN);
        Check.bound(19, "NONE: no such ones, and nothing changes");
        for (int k : new int[] {-1, 3, MIN, MAX}) {
            refused("log(" + k + ", 0)", LIVED, x -> x.log(k, 0), -1);
            refused("log(0, " + k + ")", LIVED, x -> x.log(0, k), -1);
        }
        refused("log(1, 0)", LIVED, x -> x.log(1, 0), -1);
        refused("log(60, 0)", FULL, x -> x.log(60, 0), -1);
        Check.bound(20, "HIDDEN: no such ones, and nothing changes");
        for (int k : new int[] {-1, 5, MIN, MAX}) {
            refused("step(" + k + ", 0, 0)", LIVED, x -> x.step(k, 0, 0), HIDDEN);
            refused("step(0, " + k + ", 0)", LIVED, x -> x.step(0, k, 0), HIDDEN);
            refused("step(0, 0, " + k + ")", LIVED, x -> x.step(0, 0, k), HIDDEN);
        }
        refused("step(0, 0, 3)", LIVED, x -> x.step(0, 0, 3), HIDDEN);
        refused("step(2, 0, 0)", LIVED, x -> x.step(2, 0, 0), HIDDEN);
        refused("step(4, 0, 0)", FULL, x -> x.step(4, 0, 0), HIDDEN);
        Check.bound(43, "HIDDEN for others, and nothing changes");
        for (int what : new int[] {-1, 13, MIN, MAX}) {
            refused("count(" + what + ")", LIVED, x -> x.count(what), HIDDEN);
        }
    }

    private static void settings() {
        Check.bound(9, "False: no such one, and nothing changes");
        for (int law : new int[] {-2, 2, 4, MIN, MAX}) {
            refused("law(" + law + ")", LIVED, x -> bit(x.law(law)), 0);
        }
        refused("law(4)", FULL, x -> bit(x.law(4)), 0);
        refused("law(0) of none", BARE, x -> bit(x.law(0)), 0);
        Check.bound(10, "False: out of bounds, it is so, and nothing changes");
        for (int v : new int[] {-1, 10, 2, MIN, MAX}) {
            refused("dogs(" + v + ")", LIVED, x -> bit(x.dogs(v)), 0);
        }
    }

    private static void withoutCity() {
        for (Consumer<TrapCorner> making : List.of(BARE, LAWFUL)) {
            Check.bound(1, "No CITY: what needs one is refused, and nothing changes");
            refused("rule(0)", making, x -> x.rule(0), -1);
            refused("corner(0, 0)", making, x -> x.corner(0, 0), -1);
            refused("person(0, 0)", making, x -> x.person(0, 0), THROWN);
            refused("day()", making, x -> x.day(), -1);
            refused("crumb(0, 1)", making, x -> x.crumb(0, 1), -1);
            refused("renew(0)", making, x -> x.renew(0), -1);
            refused("constable(0)", making, x -> x.constable(0), -2);
            refused("about(0)", making, x -> x.about(0), -1);
            refused("give(1)", making, x -> x.give(1), -1);
            refused("years(1, 1)", making, x -> x.years(1, 1), -1);
            refused("undo()", making, x -> x.undo(), -1);
            refused("log(0, 0)", making, x -> x.log(0, 0), -1);
            refused("run(0, 0)", making, x -> x.run(0, 0), HIDDEN);
            refused("perform(0)", making, x -> x.perform(0), -1);
            refused("pulled(0, 0)", making, x -> x.pulled(0, 0), -1);
            refused("caught(0)", making, x -> x.caught(0), -1);
            refused("baits(0, 0)", making, x -> x.baits(0, 0), -1);
            refused("seen(0, 1, 1, true)", making, x -> x.seen(0, 1, 1, true), -1);
            refused("moves(0, -1)", making, x -> x.moves(0, -1), -1);
            refused("ask(0, 1)", making, x -> x.ask(0, 1), -1);
            refused("safe(0)", making, x -> x.safe(0), -1);
            refused("passes(0)", making, x -> x.passes(0), -1);
            refused("walk(0)", making, x -> x.walk(0), -1);
            refused("game(0, 0, 0, 0, 0)", making, x -> x.game(0, 0, 0, 0, 0), HIDDEN);
            refused("rests(0, 0, -1)", making, x -> x.rests(0, 0, -1), -1);
            refused("odds(0, 0)", making, x -> x.odds(0, 0), -1);
            refused("lasts(0)", making, x -> x.lasts(0), -1);
            refused("yearly(0)", making, x -> x.yearly(0), -1);
            for (int what = 0; what <= 10; what++) {
                int w = what;
                refused("all(" + w + ")", making, x -> x.all(w), -1);
            }
            refused("kinds(1)", making, x -> x.kinds(1), -1);
            refused("needs(0, 0)", making, x -> x.needs(0, 0), -1);
            refused("shares(0, 0)", making, x -> x.shares(0, 0), -1);
            refused("image()", making, x -> x.image(), -1);
            refused("back()", making, x -> x.back(), -1);
        }
        refused("step(0, 0, 0)", BARE, x -> x.step(0, 0, 0), HIDDEN);
        Check.same("a step is there without a city", stepOfLawful(), 0);
    }

    private static int stepOfLawful() {
        TrapCorner x = new TrapCorner();
        LAWFUL.accept(x);
        return x.step(0, 0, 0);
    }

    private static void days() {
        Check.bound(11, "NONE: beyond 999, and nothing changes");
        refused("day()", FULL, x -> x.day(), -1);
    }

    private static void crumbs() {
        Check.bound(12, "NONE: no such CORNER, out of bounds, and nothing changes");
        for (int k : new int[] {-1, 4, MIN, MAX}) {
            refused("crumb(" + k + ", 0)", LIVED, x -> x.crumb(k, 0), -1);
            refused("crumb(0, " + k + ")", LIVED, x -> x.crumb(0, k), -1);
        }
        refused("crumb(3, 1)", LIVED, x -> x.crumb(3, 1), -1);
        Check.bound(12, "NONE: it is so, and nothing changes");
        refused("crumb(0, 1)", LIVED, x -> x.crumb(0, 1), -1);
        refused("crumb(1, 2)", LIVED, x -> x.crumb(1, 2), -1);
        refused("crumb(1, 0)", city("c;c;p"), x -> x.crumb(1, 0), -1);
        Check.bound(12, "NONE: too few COINS, and nothing changes");
        refused("crumb(0, 1) with one", city("sc1;c;c;p"), x -> x.crumb(0, 1), -1);
        refused("crumb(0, 3) with none", city("sc0;ck2;c;p"), x -> x.crumb(0, 3), -1);
    }

    private static void springs() {
        Check.bound(13, "NONE: no such CORNER, and nothing changes");
        for (int c : new int[] {-1, 3, MIN, MAX}) {
            refused("renew(" + c + ")", LIVED, x -> x.renew(c), -1);
        }
        Check.bound(13, "NONE: nine, and nothing changes");
        refused("renew(2)", LIVED, x -> x.renew(2), -1);
        Check.bound(13, "NONE: too few COINS, and nothing changes");
        refused("renew(0)", city("sc0;c;ck1;p"), x -> x.renew(0), -1);
        refused("renew(0) of nine and no coins", city("sc0;cs9;ck1;p"), x -> x.renew(0), -1);
    }

    private static void constableAndTurns() {
        Check.bound(14, "-2: no such CORNER, and nothing changes");
        for (int c : new int[] {-1, -2, 3, MIN, MAX}) {
            refused("constable(" + c + ")", LIVED, x -> x.constable(c), -2);
            refused("constable(" + c + ") while he is nowhere", city(Check.HOME), x -> x.constable(c), -2);
        }
        Check.bound(14, "-2: he is there, and nothing changes");
        refused("constable(1)", LIVED, x -> x.constable(1), -2);
        Check.bound(15, "NONE: no such one, and nothing changes");
        for (int i : new int[] {-1, 3, MIN, MAX}) {
            refused("about(" + i + ")", LIVED, x -> x.about(i), -1);
        }
    }

    private static void coins() {
        Check.bound(16, "NONE: out of bounds, and nothing changes");
        for (int n : new int[] {0, -1, 51, MIN, MAX}) {
            refused("give(" + n + ")", LIVED, x -> x.give(n), -1);
        }
        Check.bound(16, "NONE: above 999, and nothing changes");
        refused("give(1)", FULL, x -> x.give(1), -1);
        refused("give(50)", FULL, x -> x.give(50), -1);
        refused("give(50) at 950", x -> {
            Check.tell(x, 0, "sc50;c;c;p");
            for (int i = 0; i < 18; i++) {
                x.give(50);
            }
        }, x -> x.give(50), -1);
    }

    private static void years() {
        Check.bound(17, "NONE: out of bounds, and nothing changes");
        for (int n : new int[] {0, -1, 31, MIN, MAX}) {
            refused("years(" + n + ", 5)", LIVED, x -> x.years(n, 5), -1);
        }
        Check.bound(17, "NONE: beyond 999, and nothing changes");
        refused("years(1, 5)", FULL, x -> x.years(1, 5), -1);
        refused("years(10, 5) on 990", x -> {
            Check.tell(x, 0, "c;ck1;p");
            for (int i = 0; i < 33; i++) {
                x.years(30, i);
            }
        }, x -> x.years(10, 5), -1);
    }

    private static void undoAndImages() {
        Check.bound(18, "NONE: none, and nothing changes");
        refused("undo() in a new city", city(Check.HOME), x -> x.undo(), -1);
        refused("undo() behind all", x -> {
            Check.tell(x, 0, Check.HOME);
            x.day();
            x.give(1);
            x.undo();
            x.undo();
        }, x -> x.undo(), -1);
        refused("undo() behind forty", x -> {
            Check.tell(x, 0, Check.HOME);
            x.years(30, 1);
            x.years(20, 1);
            for (int i = 0; i < 40; i++) {
                x.undo();
            }
        }, x -> x.undo(), -1);
        refused("undo() behind an image", x -> {
            LIVED.accept(x);
            x.back();
        }, x -> x.undo(), -1);
        Check.bound(42, "NONE: no IMAGE of this CITY, and nothing changes");
        refused("back() without", city(Check.HOME), x -> x.back(), -1);
        refused("back() with acts", x -> {
            Check.tell(x, 0, Check.HOME);
            x.day();
            x.give(1);
        }, x -> x.back(), -1);
        refused("back() in another city", x -> {
            LIVED.accept(x);
            Check.tell(x, 0, "c;ck1;p");
            x.day();
        }, x -> x.back(), -1);
    }

    private static void plans() {
        Check.bound(21, "HIDDEN: no such ones, and nothing changes");
        for (int k : new int[] {-1, 2, MIN, MAX}) {
            refused("run(" + k + ", 0)", LIVED, x -> x.run(k, 0), HIDDEN);
            refused("run(0, " + k + ")", LIVED, x -> x.run(0, k), HIDDEN);
        }
        refused("run(4, 0)", FULL, x -> x.run(4, 0), HIDDEN);
        Check.bound(21, "a STEP that can't be is told and changes nothing");
        refused("run(1, 0)", LIVED, x -> x.run(1, 0), 1);
        refused("run(0, 0)", LIVED, x -> x.run(0, 0), -1);
        Check.bound(22, "NONE: no such PLAN, and nothing changes");
        for (int k : new int[] {-1, 2, MIN, MAX}) {
            refused("perform(" + k + ")", LIVED, x -> x.perform(k), -1);
        }
        refused("perform(4)", FULL, x -> x.perform(4), -1);
        Check.bound(22, "the first STEP can't be: none is done, and nothing changes");
        refused("perform(0) beyond 999", FULL, x -> x.perform(0), 0);
        refused("perform(0) on a corner that is not there", x -> {
            Check.tell(x, 2, "k91;d");
            Check.tell(x, 0, Check.HOME);
            x.day();
        }, x -> x.perform(0), 0);
    }

    private static void whatWouldBe() {
        int[] none = {-1, 6, MIN, MAX};
        for (int k : none) {
            Check.bound(23, "NONE: no such ones, and nothing changes");
            refused("pulled(" + k + ", 0)", LIVED, x -> x.pulled(k, 0), -1);
            refused("pulled(0, " + k + ")", LIVED, x -> x.pulled(0, k), -1);
            Check.bound(24, "NONE: no such one, and nothing changes");
            refused("caught(" + k + ")", LIVED, x -> x.caught(k), -1);
            Check.bound(25, "NONE: no such set, no such what, and nothing changes");
            refused("baits(0, " + k + ")", LIVED, x -> x.baits(0, k), -1);
            refused("baits(" + (k == 6 ? 8 : k) + ", 0)", LIVED, x -> x.baits(k == 6 ? 8 : k, 0), -1);
            Check.bound(29, "NONE: no such one, and nothing changes");
            refused("safe(" + k + ")", LIVED, x -> x.safe(k), -1);
            Check.bound(30, "NONE: no such CORNER, and nothing changes");
            refused("passes(" + k + ")", LIVED, x -> x.passes(k), -1);
            Check.bound(31, "NONE: no such one, and nothing changes");
            refused("walk(" + k + ")", LIVED, x -> x.walk(k), -1);
            Check.bound(34, "NONE: no such one, out of bounds, and nothing changes");
            refused("odds(" + k + ", 50)", LIVED, x -> x.odds(k, 50), -1);
            refused("odds(0, " + (k == 6 ? 101 : k) + ")", LIVED, x -> x.odds(0, k == 6 ? 101 : k), -1);
            Check.bound(35, "NONE: no such CORNER, and nothing changes");
            refused("lasts(" + k + ")", LIVED, x -> x.lasts(k), -1);
            Check.bound(36, "NONE: no such one, and nothing changes");
            refused("yearly(" + k + ")", LIVED, x -> x.yearly(k), -1);
        }
        Check.bound(25, "NONE: by none, and nothing changes");
        refused("baits(2, 0)", city("c;c;p;p"), x -> x.baits(2, 0), -1);
        Check.bound(35, "NONE: not within 60, and nothing changes");
        refused("lasts(2)", LIVED, x -> x.lasts(2), -1);
    }

    private static void sightings() {
        Check.bound(26, "NONE: no such one, out of bounds, and nothing changes");
        for (int k : new int[] {-1, 10, MIN, MAX}) {
            refused("seen(" + k + ", 1, 1, true)", LIVED, x -> x.seen(k, 1, 1, true), -1);
            refused("seen(0, " + k + ", 1, true)", LIVED, x -> x.seen(0, k, 1, true), -1);
            refused("seen(0, 1, " + k + ", true)", LIVED, x -> x.seen(0, 1, k, true), -1);
        }
        refused("seen(3, 1, 1, false)", LIVED, x -> x.seen(3, 1, 1, false), -1);
        refused("seen(0, 0, 1, false)", LIVED, x -> x.seen(0, 0, 1, false), -1);
        refused("seen(0, 1, 0, false)", LIVED, x -> x.seen(0, 1, 0, false), -1);
        refused("seen(0, 1, 4, false)", LIVED, x -> x.seen(0, 1, 4, false), -1);
        Check.bound(26, "NONE: there are ten, and nothing changes");
        refused("seen(0, 9, 1, true)", FULL, x -> x.seen(0, 9, 1, true), -1);
        refused("seen(1, 9, 1, false)", FULL, x -> x.seen(1, 9, 1, false), -1);
        Check.bound(27, "NONE: no such one, no such PERSON, and nothing changes");
        for (int k : new int[] {-2, 30, MIN, MAX}) {
            refused("moves(" + k + ", -1)", LIVED, x -> x.moves(k, -1), -1);
            refused("moves(0, " + k + ")", LIVED, x -> x.moves(0, k), -1);
        }
        refused("moves(-1, 0)", LIVED, x -> x.moves(-1, 0), -1);
        refused("moves(3, 0)", LIVED, x -> x.moves(3, 0), -1);
        Check.bound(28, "NONE: no such one, out of bounds, and nothing changes");
        for (int k : new int[] {-1, 10, MIN, MAX}) {
            refused("ask(" + k + ", 3)", LIVED, x -> x.ask(k, 3), -1);
            refused("ask(0, " + k + ")", LIVED, x -> x.ask(0, k), -1);
        }
        refused("ask(0, 0)", LIVED, x -> x.ask(0, 0), -1);
        refused("ask(3, 3)", LIVED, x -> x.ask(3, 3), -1);
        Check.bound(28, "NONE: nothing fits, and nothing changes");
        refused("ask(0, 3)", x -> {
            LIVED.accept(x);
            x.seen(0, 5, 1, false);
        }, x -> x.ask(0, 3), -1);
    }

    private static void games() {
        Check.bound(32, "HIDDEN: no such ones, out of bounds, and nothing changes");
        for (int k : new int[] {-1, 4, MIN, MAX}) {
            refused("game(" + k + ", 0, 0, 0, 0)", LIVED, x -> x.game(k, 0, 0, 0, 0), HIDDEN);
            refused("game(0, " + k + ", 0, 0, 0)", LIVED, x -> x.game(0, k, 0, 0, 0), HIDDEN);
            refused("game(0, 0, " + k + ", 0, 0)", LIVED, x -> x.game(0, 0, k, 0, 0), HIDDEN);
            refused("game(0, 0, 0, " + k + ", 0)", LIVED, x -> x.game(0, 0, 0, k, 0), HIDDEN);
            refused("game(0, 0, 0, 0, " + k + ")", LIVED, x -> x.game(0, 0, 0, 0, k), HIDDEN);
        }
        refused("game(3, 0, 0, 0, 0)", LIVED, x -> x.game(3, 0, 0, 0, 0), HIDDEN);
        refused("game(0, 3, 0, 0, 0)", LIVED, x -> x.game(0, 3, 0, 0, 0), HIDDEN);
        refused("game(0, 0, 0, 2, 0)", LIVED, x -> x.game(0, 0, 0, 2, 0), HIDDEN);
        refused("game(0, 0, 0, 0, 2)", LIVED, x -> x.game(0, 0, 0, 0, 2), HIDDEN);
        Check.bound(33, "NONE: no such one, no such PERSON, CORNER, and nothing changes");
        for (int k : new int[] {-2, 8, MIN, MAX}) {
            refused("rests(" + k + ", 0, -1)", LIVED, x -> x.rests(k, 0, -1), -1);
            refused("rests(0, " + k + ", -1)", LIVED, x -> x.rests(0, k, -1), -1);
            refused("rests(0, 0, " + k + ")", LIVED, x -> x.rests(0, 0, k), -1);
        }
        refused("rests(3, 0, -1)", LIVED, x -> x.rests(3, 0, -1), -1);
        refused("rests(0, 3, -1)", LIVED, x -> x.rests(0, 3, -1), -1);
        refused("rests(-1, 0, -1)", LIVED, x -> x.rests(-1, 0, -1), -1);
        refused("rests(0, -1, -1)", LIVED, x -> x.rests(0, -1, -1), -1);
    }

    private static void whole() {
        Check.bound(37, "NONE: no such what, and nothing changes");
        for (int what : new int[] {-1, 11, MIN, MAX}) {
            refused("all(" + what + ")", LIVED, x -> x.all(what), -1);
        }
        Check.bound(38, "NONE: no such MOTIVE, and nothing changes");
        for (int m : new int[] {0, 4, MIN, MAX}) {
            refused("kinds(" + m + ")", LIVED, x -> x.kinds(m), -1);
        }
        Check.bound(39, "NONE: by none, no such ones, and nothing changes");
        for (int k : new int[] {-1, 3, MIN, MAX}) {
            refused("needs(" + k + ", 0)", LIVED, x -> x.needs(k, 0), -1);
            refused("needs(0, " + k + ")", LIVED, x -> x.needs(0, k), -1);
        }
        refused("needs(0, 1) by none", city("st30;c;c;p"), x -> x.needs(0, 1), -1);
        Check.bound(40, "NONE: no such CORNER, out of bounds, and nothing changes");
        for (int k : new int[] {-1, 1000, MIN, MAX}) {
            refused("shares(" + k + ", 9)", LIVED, x -> x.shares(k, 9), -1);
            refused("shares(0, " + k + ")", LIVED, x -> x.shares(0, k), -1);
        }
        refused("shares(3, 9)", LIVED, x -> x.shares(3, 9), -1);
    }
}
