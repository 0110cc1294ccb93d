import java.lang.management.ManagementFactory;
import java.util.function.Consumer;

/** All calls of a run live in one room: how many bytes an object takes, and that asking and acting take no more. */
public final class RoomTest {
    private static final int CALLS = 250;

    public static void main(String[] args) {
        // what the machine takes when it runs a call for the first time is not counted
        made();
        asking(lively());
        long before = taken();
        made();
        Check.same("bytes of a new object below 12,000", taken() - before < 12000, true);
        asking(lively());
        acting();
        telling();
        Check.close();
    }

    private static long taken() {
        if (ManagementFactory.getThreadMXBean() instanceof com.sun.management.ThreadMXBean bean) {
            return bean.getThreadAllocatedBytes(Thread.currentThread().getId());
        }
        return 0;
    }

    private static TrapCorner made() {
        return new TrapCorner();
    }

    private static TrapCorner lively() {
        TrapCorner x = Check.city("st9o1;ck1s4;ck2s6;ck3s3;ck1s9;cs9;pa0b2g5;pm2a3b1w0;pm3a2b1g2r1;pm2a1b0;p;p",
                "y:!([m+1]*[s+[g-1]*2]>30&n=0)|d<5?s*2+m*g;y:30-w-d");
        Check.tell(x, 2, "d;s0;k31;d;r1;d");
        return x;
    }

    /** The smallest object has 16 bytes: calls that make one each would take more than measuring itself does. */
    private static void takesNothing(String what, TrapCorner x, Consumer<TrapCorner> call) {
        call.accept(x);
        long before = taken();
        for (int i = 0; i < CALLS; i++) {
            call.accept(x);
        }
        long bytes = taken() - before;
        Check.same(what + " makes objects (bytes)", bytes >= CALLS * 16 ? bytes : 0, 0);
    }

    private static void asking(TrapCorner x) {
        takesNothing("run", x, t -> t.run(0, 1));
        takesNothing("pulled", x, t -> t.pulled(0, 1));
        takesNothing("caught", x, t -> t.caught(1));
        takesNothing("baits", x, t -> t.baits(3, 0));
        takesNothing("moves", x, t -> t.moves(0, 4));
        takesNothing("ask", x, t -> t.ask(0, 4));
        takesNothing("safe", x, t -> t.safe(0));
        takesNothing("passes", x, t -> t.passes(0));
        takesNothing("game", x, t -> t.game(0, 1, 2, 1, 0));
        takesNothing("rests", x, t -> t.rests(0, 1, 0));
        takesNothing("odds", x, t -> t.odds(2, 30));
        takesNothing("lasts", x, t -> t.lasts(4));
        takesNothing("yearly", x, t -> t.yearly(3));
        takesNothing("all", x, t -> t.all(5));
        takesNothing("needs", x, t -> t.needs(0, 1));
        takesNothing("shares", x, t -> t.shares(0, 100));
        takesNothing("count", x, t -> t.count(7));
        takesNothing("image", x, t -> t.image());
        takesNothing("back", x, t -> t.back());
    }

    private static void acting() {
        TrapCorner x = lively();
        for (int i = 0; i < 40; i++) {
            x.about(0);
        }
        takesNothing("about behind forty acts", x, t -> t.about(0));
        takesNothing("day behind forty acts", x, t -> t.day());
        TrapCorner y = lively();
        y.image();
        takesNothing("years and back", y, t -> {
            t.years(30, 3);
            t.back();
        });
        takesNothing("perform and back", y, t -> {
            t.perform(0);
            t.back();
        });
        takesNothing("about and undo", lively(), t -> {
            t.about(1);
            t.undo();
        });
    }

    private static void telling() {
        TrapCorner x = lively();
        Check.put(x, "st9o1;ck1s4;ck2s6;ck3s3;cs9;pa0b2g5;pm2a3b1w0;pm3a2b1g2r1;pm2a1b0;p;");
        for (int sort = 0; sort < 3; sort++) {
            int s = sort;
            takesNothing("fault", x, t -> t.fault(s));
            takesNothing("text that is refused", x, t -> t.text(s));
        }
        takesNothing("feed and end", x, t -> {
            t.feed(0x41424344, 0x41424344, 0x41424344, 0x41424344, 0x41424344);
            t.end(7);
        });
    }
}
