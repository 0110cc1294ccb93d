import java.util.ArrayList;
import java.util.List;
import java.util.NoSuchElementException;
import java.util.function.Consumer;
import java.util.function.ToLongFunction;

/**
 * Two objects made by the same calls. One is also asked what must be refused; from then on both must answer alike,
 * whatever is asked. An object is good for 512 calls: a story takes 400 of them at most.
 */
final class Twins {
    /** What a call answers that throws NoSuchElementException. */
    static final long THROWN = Long.MIN_VALUE;

    private Twins() {
    }

    /** What is refused answers as told and changes nothing. */
    static void refused(String what, Consumer<TrapCorner> making, ToLongFunction<TrapCorner> call, long due) {
        TrapCorner asked = new TrapCorner();
        making.accept(asked);
        Check.same(what, answer(asked, call), due);
        Check.same(what + " again", answer(asked, call), due);
        TrapCorner spared = new TrapCorner();
        making.accept(spared);
        List<String> with = story(asked);
        List<String> without = story(spared);
        Check.same(what + ": how much can be told then", with.size(), without.size());
        Check.same(what + ": a story of 380 calls at most", with.size() <= 380, true);
        for (int i = 0; i < Math.min(with.size(), without.size()); i++) {
            if (!with.get(i).equals(without.get(i))) {
                Check.same("behind " + what + " (" + with.get(i) + ", without it " + without.get(i) + ") all as before", false, true);
                return;
            }
        }
        Check.same("behind " + what + " all as before", true, true);
    }

    private static long answer(TrapCorner x, ToLongFunction<TrapCorner> call) {
        try {
            return call.applyAsLong(x);
        } catch (NoSuchElementException e) {
            return THROWN;
        }
    }

    private static List<String> story(TrapCorner x) {
        List<String> told = new ArrayList<>();
        texts(x, told);
        look(x, told);
        whatWouldBe(x, told);
        acts(x, told);
        return told;
    }

    private static void add(List<String> told, String call, long answer) {
        told.add(call + " = " + answer);
    }

    private static void add(List<String> told, String call, boolean answer) {
        told.add(call + " = " + answer);
    }

    private static void texts(TrapCorner x, List<String> told) {
        for (int sort = 0; sort < 3; sort++) {
            add(told, "fault(" + sort + ")", x.fault(sort));
        }
        int plans = x.count(3);
        for (int plan = 0; plan < plans; plan++) {
            for (int i = 0; i < 6; i++) {
                add(told, "step(" + plan + ", " + i % 2 + ", " + i / 2 + ")", x.step(plan, i % 2, i / 2));
            }
        }
    }

    /** What is: also at the end of a longer story. */
    private static void look(TrapCorner x, List<String> told) {
        for (int i = 0; i <= 12; i++) {
            add(told, "count(" + i + ")", x.count(i));
        }
        add(told, "rule(1)", x.rule(1));
        int people = x.count(0);
        int corners = x.count(1);
        for (int c = 0; c < corners; c++) {
            add(told, "corner(" + c + ", 0)", x.corner(c, 0));
            add(told, "corner(" + c + ", 1)", x.corner(c, 1));
        }
        for (int i = 0; i < people; i++) {
            add(told, "person(" + i + ", 2)", x.person(i, 2));
            add(told, "person(" + i + ", 5)", x.person(i, 5));
            add(told, "person(" + i + ", 6)", x.person(i, 6));
        }
        for (int what = 0; what < 3; what++) {
            add(told, "log(0, " + what + ")", x.log(0, what));
        }
        add(told, "log(59, 2)", x.log(59, 2));
    }

    private static void whatWouldBe(TrapCorner x, List<String> told) {
        int people = x.count(0);
        int corners = x.count(1);
        int plans = x.count(3);
        for (int plan = 0; plan < plans; plan++) {
            add(told, "run(" + plan + ", 0)", x.run(plan, 0));
            add(told, "run(" + plan + ", 1)", x.run(plan, 1));
        }
        for (int i = 0; i < people; i++) {
            for (int what = 0; what < 5; what++) {
                add(told, "person(" + i + ", " + what + ")", x.person(i, what));
            }
            add(told, "pulled(" + i + ", 1)", x.pulled(i, 1));
            add(told, "caught(" + i + ")", x.caught(i));
            add(told, "moves(" + i + ", -1)", x.moves(i, -1));
            add(told, "moves(" + i + ", 0)", x.moves(i, 0));
            add(told, "ask(" + i + ", 3)", x.ask(i, 3));
            add(told, "safe(" + i + ")", x.safe(i));
            add(told, "walk(" + i + ")", x.walk(i));
            add(told, "game(" + i + ", 1, 1, 0, 0)", x.game(i, 1, 1, 0, 0));
            add(told, "rests(" + i + ", 1, -1)", x.rests(i, 1, -1));
            add(told, "odds(" + i + ", 30)", x.odds(i, 30));
            add(told, "yearly(" + i + ")", x.yearly(i));
            add(told, "needs(" + i + ", 0)", x.needs(i, 0));
        }
        for (int c = 0; c < corners; c++) {
            add(told, "passes(" + c + ")", x.passes(c));
            add(told, "lasts(" + c + ")", x.lasts(c));
            add(told, "shares(" + c + ", 100)", x.shares(c, 100));
        }
        add(told, "baits(0, 0)", x.baits(0, 0));
        add(told, "baits(1, 0)", x.baits(1, 0));
        add(told, "baits(3, 1)", x.baits(3, 1));
        for (int what = 0; what <= 10; what++) {
            add(told, "all(" + what + ")", x.all(what));
        }
        for (int m = 1; m <= 3; m++) {
            add(told, "kinds(" + m + ")", x.kinds(m));
        }
        add(told, "rule(0)", x.rule(0));
        add(told, "rule(2)", x.rule(2));
    }

    /** Acts from here on, undone, gone back, with texts told at last. */
    private static void acts(TrapCorner x, List<String> told) {
        add(told, "undo()", x.undo());
        look(x, told);
        add(told, "day()", x.day());
        add(told, "crumb(1, 1)", x.crumb(1, 1));
        add(told, "crumb(0, 3)", x.crumb(0, 3));
        add(told, "renew(1)", x.renew(1));
        add(told, "constable(0)", x.constable(0));
        add(told, "about(0)", x.about(0));
        add(told, "give(2)", x.give(2));
        add(told, "years(2, 9)", x.years(2, 9));
        add(told, "perform(0)", x.perform(0));
        add(told, "seen(0, 4, 1, true)", x.seen(0, 4, 1, true));
        add(told, "moves(0, -1)", x.moves(0, -1));
        look(x, told);
        for (int i = 0; i < 8; i++) {
            add(told, "undo()", x.undo());
        }
        look(x, told);
        add(told, "back()", x.back());
        add(told, "undo()", x.undo());
        look(x, told);
        add(told, "image()", x.image());
        add(told, "dogs(5)", x.dogs(5));
        add(told, "law(0)", x.law(0));
        add(told, "law(-1)", x.law(-1));
        add(told, "years(1, 3)", x.years(1, 3));
        add(told, "feed", x.feed('b', '0', 0, 0, 0));
        for (int sort = 2; sort >= 0; sort--) {
            add(told, "text(" + sort + ")", x.text(sort));
        }
        add(told, "end(0)", x.end(0));
        // y:3
        add(told, "feed", x.feed('y', ':', '3', 0, 0));
        add(told, "text(1)", x.text(1));
        look(x, told);
    }
}
