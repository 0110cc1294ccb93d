import java.util.NoSuchElementException;
import java.util.Random;

/** Random runs of at most 512 calls, each answer compared with that of the Model. */
public final class ModelTest {
    private static final String[] NAMES = {"rule", "corner", "person", "law", "dogs", "day", "crumb", "renew",
        "constable", "about", "give", "years", "undo", "log", "step", "run", "perform", "pulled", "caught", "baits",
        "seen", "moves", "ask", "safe", "passes", "walk", "game", "rests", "odds", "lasts", "yearly", "all", "kinds",
        "needs", "shares", "image", "back", "count", "fault", "text", "end", "feed"};
    private static final int THROWS = Integer.MIN_VALUE;

    private final Random random;
    private final Texts texts;
    private final TrapCorner real = new TrapCorner();
    private final Model model = new Model();
    private final StringBuilder history = new StringBuilder();
    private int calls;
    private boolean wrong;

    private ModelTest(long seed) {
        random = new Random(seed);
        texts = new Texts(random);
    }

    public static void main(String[] args) {
        int runs = args.length > 0 ? Integer.parseInt(args[0]) : 700;
        int wrongRuns = 0;
        for (int seed = 0; seed < runs && wrongRuns < 3; seed++) {
            ModelTest t = new ModelTest(seed);
            t.go(seed % 4);
            if (t.wrong) {
                wrongRuns++;
                System.out.println("seed " + seed + ", after " + t.calls + " calls:\n" + t.history);
            }
        }
        System.out.println(wrongRuns == 0 ? runs + " runs as the model has it" : "not as the model has it");
        if (wrongRuns > 0) {
            System.exit(1);
        }
    }

    /** Moods: 0 all calls alike, 1 many days, 2 many texts, 3 hands mostly. */
    private void go(int mood) {
        if (mood != 2 && random.nextInt(8) > 0) {
            tell(0, texts.any(0));
        }
        while (calls < 500 && !wrong) {
            int dice = random.nextInt(100);
            if (dice < (mood == 2 ? 50 : 3)) {
                int sort = random.nextInt(3);
                int how = random.nextInt(4);
                tell(sort, how == 0 ? texts.noise() : how == 1 ? texts.spoilt(sort) : texts.any(sort));
            } else if (dice < 9 && mood != 1) {
                tell(0, texts.any(0));
            } else if (mood == 1 && dice < 40) {
                call(dice < 15 ? "years" : dice < 35 ? "day" : "renew");
            } else if (mood == 3 && dice < 60) {
                call(NAMES[5 + random.nextInt(8)]);
            } else {
                call(NAMES[random.nextInt(NAMES.length)]);
            }
        }
    }

    private void tell(int sort, String text) {
        check("end(0)", real.end(0) ? 1 : 0, model.end(0) ? 1 : 0);
        StringBuilder left = new StringBuilder(text);
        while (left.length() > 0 && !wrong) {
            int[] five = new int[5];
            for (int i = 0; i < 20 && left.length() > 0; i++) {
                if (random.nextInt(40) > 0) {
                    five[i / 4] |= left.charAt(0) << (24 - 8 * (i % 4));
                    left.deleteCharAt(0);
                }
            }
            check("feed", real.feed(five[0], five[1], five[2], five[3], five[4]), model.feed(five));
        }
        for (int k = 0; k < 3; k++) {
            check("fault(" + k + ") of '" + text + "'", real.fault(k), model.fault(k));
        }
        check("text(" + sort + ") of '" + text + "'", real.text(sort), model.text(sort));
        if (sort == 1 && model.laws.size() > 0) {
            check("law", real.law(model.laws.size() - 1) ? 1 : 0, model.law(model.laws.size() - 1) ? 1 : 0);
        }
    }

    private int arg(int low, int high) {
        switch (random.nextInt(40)) {
            case 0:
                return low - 1;
            case 1:
                return high + 1;
            case 2:
                return random.nextInt();
            case 3:
                return random.nextBoolean() ? Integer.MAX_VALUE : Integer.MIN_VALUE;
            default:
                return low + random.nextInt(high - low + 1);
        }
    }

    private int who() {
        return arg(0, Math.max(1, model.count(0)) - 1);
    }

    private int where() {
        return arg(0, Math.max(1, model.count(1)) - 1);
    }

    private int plan() {
        return arg(0, Math.max(1, model.count(3)) - 1);
    }

    private void call(String name) {
        int a = 0;
        int b = 0;
        int c = 0;
        int d = 0;
        int e = 0;
        boolean f = random.nextBoolean();
        long seed = random.nextInt(5) == 0 ? random.nextInt(3) - 1 : random.nextLong();
        switch (name) {
            case "rule":
                a = arg(0, 2);
                break;
            case "corner":
                a = where();
                b = arg(0, 1);
                break;
            case "person":
                a = who();
                b = arg(0, 6);
                break;
            case "law":
                a = arg(-1, 3);
                break;
            case "dogs":
                a = arg(0, 9);
                break;
            case "crumb":
                a = where();
                b = arg(0, 3);
                break;
            case "renew":
            case "constable":
            case "passes":
            case "lasts":
                a = where();
                break;
            case "about":
            case "caught":
            case "safe":
            case "walk":
            case "yearly":
                a = who();
                break;
            case "give":
                a = arg(1, 50);
                break;
            case "years":
                a = arg(1, 30);
                break;
            case "log":
                a = random.nextBoolean() ? arg(0, 3) : arg(0, 60);
                b = arg(0, 2);
                break;
            case "step":
                a = plan();
                b = arg(0, 5);
                c = arg(0, 2);
                break;
            case "run":
                a = plan();
                b = arg(0, 1);
                break;
            case "perform":
                a = plan();
                break;
            case "pulled":
            case "needs":
                a = who();
                b = where();
                break;
            case "baits":
                // the model is slow here
                if (random.nextInt(6) > 0 || model.count(1) == 5 && random.nextInt(4) > 0) {
                    return;
                }
                a = random.nextBoolean() ? 1 << random.nextInt(Math.max(1, model.count(0))) : arg(0, (1 << model.count(0)) - 1);
                b = arg(0, 1);
                break;
            case "seen":
                a = who();
                b = arg(1, 9);
                c = arg(1, 3);
                break;
            case "moves":
                a = who();
                b = arg(-1, 29);
                break;
            case "ask":
                a = who();
                b = arg(1, 9);
                break;
            case "game":
                a = who();
                b = where();
                c = arg(0, 3);
                d = arg(0, 1);
                e = arg(0, 1);
                break;
            case "rests":
                a = who();
                b = where();
                c = arg(-1, 3);
                break;
            case "odds":
                a = who();
                b = random.nextInt(4) == 0 ? arg(0, 100) : arg(1, 99);
                break;
            case "all":
                a = arg(0, 10);
                break;
            case "kinds":
                a = arg(1, 3);
                break;
            case "shares":
                a = where();
                b = arg(0, 999);
                break;
            case "count":
                a = arg(0, 12);
                break;
            case "fault":
                a = arg(0, 2);
                break;
            case "text":
                a = arg(1, 2);
                break;
            case "end":
                a = arg(0, Math.max(1, model.count(4)));
                break;
            case "feed":
                if (random.nextInt(4) > 0) {
                    return;
                }
                a = random.nextInt();
                b = random.nextInt() & random.nextInt();
                c = random.nextInt(256);
                break;
            default:
                break;
        }
        String told = name + "(" + a + ", " + b + ", " + c + ", " + d + ", " + e + ", " + f + ", " + seed + ")";
        check(told, ofReal(name, a, b, c, d, e, f, seed), ofModel(name, a, b, c, d, e, f, seed));
    }

    private void check(String told, int got, int want) {
        calls++;
        history.append(told).append(" = ").append(got).append('\n');
        if (got != want && !wrong) {
            wrong = true;
            history.append("   but the model has ").append(want).append('\n');
        }
    }

    private int ofReal(String name, int a, int b, int c, int d, int e, boolean f, long seed) {
        switch (name) {
            case "person":
                try {
                    return real.person(a, b);
                } catch (NoSuchElementException x) {
                    return THROWS;
                }
            case "rule":
                return real.rule(a);
            case "corner":
                return real.corner(a, b);
            case "law":
                return real.law(a) ? 1 : 0;
            case "dogs":
                return real.dogs(a) ? 1 : 0;
            case "day":
                return real.day();
            case "crumb":
                return real.crumb(a, b);
            case "renew":
                return real.renew(a);
            case "constable":
                return real.constable(a);
            case "about":
                return real.about(a);
            case "give":
                return real.give(a);
            case "years":
                return real.years(a, seed);
            case "undo":
                return real.undo();
            case "log":
                return real.log(a, b);
            case "step":
                return real.step(a, b, c);
            case "run":
                return real.run(a, b);
            case "perform":
                return real.perform(a);
            case "pulled":
                return real.pulled(a, b);
            case "caught":
                return real.caught(a);
            case "baits":
                return real.baits(a, b);
            case "seen":
                return real.seen(a, b, c, f);
            case "moves":
                return real.moves(a, b);
            case "ask":
                return real.ask(a, b);
            case "safe":
                return real.safe(a);
            case "passes":
                return real.passes(a);
            case "walk":
                return real.walk(a);
            case "game":
                return real.game(a, b, c, d, e);
            case "rests":
                return real.rests(a, b, c);
            case "odds":
                return real.odds(a, b);
            case "lasts":
                return real.lasts(a);
            case "yearly":
                return real.yearly(a);
            case "all":
                return real.all(a);
            case "kinds":
                return real.kinds(a);
            case "needs":
                return real.needs(a, b);
            case "shares":
                return real.shares(a, b);
            case "image":
                return real.image();
            case "back":
                return real.back();
            case "count":
                return real.count(a);
            case "fault":
                return real.fault(a);
            case "text":
                return real.text(a);
            case "end":
                return real.end(a) ? 1 : 0;
            case "feed":
                return real.feed(a, b, c, d, e);
            default:
                throw new IllegalStateException(name);
        }
    }

    private int ofModel(String name, int a, int b, int c, int d, int e, boolean f, long seed) {
        switch (name) {
            case "person":
                try {
                    return model.person(a, b);
                } catch (NoSuchElementException x) {
                    return THROWS;
                }
            case "rule":
                return model.rule(a);
            case "corner":
                return model.corner(a, b);
            case "law":
                return model.law(a) ? 1 : 0;
            case "dogs":
                return model.dogs(a) ? 1 : 0;
            case "day":
                return model.day();
            case "crumb":
                return model.crumb(a, b);
            case "renew":
                return model.renew(a);
            case "constable":
                return model.constable(a);
            case "about":
                return model.about(a);
            case "give":
                return model.give(a);
            case "years":
                return model.years(a, seed);
            case "undo":
                return model.undo();
            case "log":
                return model.log(a, b);
            case "step":
                return model.step(a, b, c);
            case "run":
                return model.run(a, b);
            case "perform":
                return model.perform(a);
            case "pulled":
                return model.pulled(a, b);
            case "caught":
                return model.caught(a);
            case "baits":
                return model.baits(a, b);
            case "seen":
                return model.seen(a, b, c, f);
            case "moves":
                return model.moves(a, b);
            case "ask":
                return model.ask(a, b);
            case "safe":
                return model.safe(a);
            case "passes":
                return model.passes(a);
            case "walk":
                return model.walk(a);
            case "game":
                return model.game(a, b, c, d, e);
            case "rests":
                return model.rests(a, b, c);
            case "odds":
                return model.odds(a, b);
            case "lasts":
                return model.lasts(a);
            case "yearly":
                return model.yearly(a);
            case "all":
                return model.all(a);
            case "kinds":
                return model.kinds(a);
            case "needs":
                return model.needs(a, b);
            case "shares":
                return model.shares(a, b);
            case "image":
                return model.image();
            case "back":
                return model.back();
            case "count":
                return model.count(a);
            case "fault":
                return model.fault(a);
            case "text":
                return model.text(a);
            case "end":
                return model.end(a) ? 1 : 0;
            case "feed":
                return model.feed(a, b, c, d, e);
            default:
                throw new IllegalStateException(name);
        }
    }
}
