import com.sun.management.ThreadMXBean;
import java.io.IOException;
import java.io.UncheckedIOException;
import java.lang.management.ManagementFactory;
import java.nio.charset.StandardCharsets;
import java.nio.file.Files;
import java.nio.file.Path;

/** 512 calls of one sort on one object, what they make in the room there is, and what the interface says ahead of calls. */
final class CallEdges {
    private static final int CALLS = 512;
    /** What all calls of a run may make, kept far below 7.3 million fields and elements. */
    private static final long ROOM = 4000000;

    private interface Call {
        long on(OneBeatsBoth x, int k);
    }

    private CallEdges() {
    }

    static void run() {
        Doc.says("What it is", "An object is used for at most 512 calls after it has been made; what later calls answer is free.");
        leagues();
        counts();
        shelves();
        inMind();
        ahead("---- leagues.", "league one comes beat law lawful");
        ahead("---- pairs, matches.", "masters orphans holding free rings cup");
        ahead("---- to put it right.", "right cheapest fresh leavers");
        ahead("---- odds, counts, rounds.", "odds ways round byRounds");
        ahead("---- what was played.", "played seeded judge");
        ahead("---- the image, what is told.", "image restore count");
        ahead("---- shelves.", "keep row put element copy price toss");
    }

    /** As many calls as are left of 512; made ahead are so many. */
    private static void all(String what, OneBeatsBoth x, int made, Call call, long due) {
        ThreadMXBean threads = (ThreadMXBean) ManagementFactory.getThreadMXBean();
        long thread = Thread.currentThread().getId();
        long before = threads.getThreadAllocatedBytes(thread);
        for (int k = made; k < CALLS; k++) {
            Due.is(what, call.on(x, k), due);
        }
        Due.holds(what + ": the room", threads.getThreadAllocatedBytes(thread) - before < ROOM);
    }

    private static OneBeatsBoth seven() {
        OneBeatsBoth x = new OneBeatsBoth();
        x.keep(0, 1, 0, 0);
        for (int i = 0; i < 7; i++) {
            x.comes(0);
        }
        return x;
    }

    private static void leagues() {
        OneBeatsBoth x = new OneBeatsBoth();
        String people = "p00;p19;p29;p39;p49;p59;p69;";
        Due.write(x, 0, people + "w10;u;u;u;u;u;u;u;" + people + "u;u;u;u;u;u;u;l1;l2;l1;l2;");
        all("league", x, 101, (y, k) -> y.league(0), 33);
        all("comes, no room", seven(), 8, (y, k) -> y.comes(0), -2);
        all("beat", seven(), 8, (y, k) -> y.beat(6 - k % 2 * 6, k % 2 * 6), 1);
        all("law", Due.of("l1;"), 5, (y, k) -> y.law(1 + k % 2) + k % 2, 2);
        all("lawful", seven(), 8, (y, k) -> y.lawful(), 0);
        all("one", seven(), 8, (y, k) -> y.one(0, 3), 126);
        all("masters", seven(), 8, (y, k) -> y.masters(6, 5), 31);
        all("orphans", seven(), 8, (y, k) -> y.orphans(0), 6);
        all("holding", seven(), 8, (y, k) -> y.holding(), 0);
        all("free", seven(), 8, (y, k) -> y.free(), 0);
        all("rings", seven(), 8, (y, k) -> y.rings(), 0);
        all("cup", seven(), 8, (y, k) -> y.cup(), 0);
        all("right", seven(), 8, (y, k) -> y.right(), -4);
        all("cheapest", seven(), 8, (y, k) -> y.cheapest(), -4);
        all("fresh", seven(), 8, (y, k) -> y.fresh(7, 9, 0), 0);
        all("leavers", seven(), 8, (y, k) -> y.leavers(), 0);
    }

    private static void counts() {
        all("odds", Due.of("p19;p19;p19;p19;l1;"), 21, (y, k) -> y.odds(1), 2);
        all("ways", new OneBeatsBoth(), 0, (y, k) -> y.ways(5, 1), 704);
        all("round", new OneBeatsBoth(), 0, (y, k) -> y.round(19, 1534, 2), 1);
        all("byRounds", new OneBeatsBoth(), 0, (y, k) -> y.byRounds(19, 2), 1534);
        OneBeatsBoth x = Due.of("p00;p00;p00;p00;p00;l1;");
        x.row(0, 0, 100);
        for (int i = 1; i < 100; i += 2) {
            x.put(0, i, 1);
        }
        all("played", x, 76, (y, k) -> y.played(0), 352);
        all("seeded", seven(), 8, (y, k) -> y.seeded(30, 5), 0);
        x = seven();
        x.row(0, 2, 99);
        for (int i = 0; i < 99; i += 3) {
            x.put(0, i, 1);
            x.put(0, i + 1, 2);
        }
        all("judge", x, 75, (y, k) -> y.judge(0), -4);
        all("image", seven(), 8, (y, k) -> y.image(), 7);
        all("image and restore", seven(), 8, (y, k) -> k % 2 == 0 ? y.image() : y.restore(), 7);
        all("count", seven(), 8, (y, k) -> y.count(3), 21);
    }

    private static void shelves() {
        all("keep", new OneBeatsBoth(), 0, (y, k) -> y.keep(k % 8, 1, k / 8 % 8, k % 10), 0);
        all("row", new OneBeatsBoth(), 0, (y, k) -> y.row(k % 8, 2, 100), 0);
        OneBeatsBoth x = new OneBeatsBoth();
        x.row(0, 1, 100);
        all("put", x, 1, (y, k) -> y.put(0, k % 100, k), 0);
        Due.is("the last that was put", x.element(0, 11), 511);
        x = new OneBeatsBoth();
        x.row(0, 2, 100);
        all("element", x, 1, (y, k) -> y.element(0, k % 100), 0);
        x = new OneBeatsBoth();
        x.row(0, 2, 100);
        all("copy", x, 1, (y, k) -> y.copy(0, 0, 0, 0, 100), 100);
        x = new OneBeatsBoth();
        x.keep(0, 1, 6, 9);
        all("price", x, 1, (y, k) -> y.price(0), 11);
        x = new OneBeatsBoth();
        x.keep(0, 1, 6, 9);
        all("toss", x, 1, (y, k) -> y.toss(0), 211);
    }

    /** What one call has in mind, the next one doesn't find there. */
    private static void inMind() {
        Doc.says("Terms", "in mind");
        Call[] calls = {
            (x, k) -> x.holding(), (x, k) -> x.free(), (x, k) -> x.right(), (x, k) -> x.cheapest(), (x, k) -> x.fresh(6, 9, 0),
            (x, k) -> x.leavers(), (x, k) -> x.odds(0), (x, k) -> x.ways(5, 1), (x, k) -> x.ways(1, 2), (x, k) -> x.played(0),
            (x, k) -> x.seeded(30, 1), (x, k) -> x.league(1), (x, k) -> x.restore(), (x, k) -> x.lawful()
        };
        for (Call ahead : calls) {
            for (Call behind : calls) {
                OneBeatsBoth x = someone();
                ahead.on(x, 0);
                Due.is("one call behind another one", behind.on(x, 0), behind.on(someone(), 0));
            }
        }
    }

    private static OneBeatsBoth someone() {
        OneBeatsBoth x = Due.of("p11;p00;p41;p03;w20;w30;l1;");
        x.image();
        Due.fill(x, 0, 0, 2, 3, 1, 2);
        Due.write(x, 1, "u;u;p90;");
        return x;
    }

    private static void ahead(String says, String calls) {
        Doc.says("Terms", "Ahead of the calls `" + calls.replace(" ", "`, `") + "` the interface says: " + says);
        String source;
        try {
            source = Files.readString(Path.of("src/main/java/OneBeatsBoth.java"), StandardCharsets.ISO_8859_1);
        } catch (IOException e) {
            throw new UncheckedIOException(e);
        }
        int at = source.indexOf("// " + says.substring(0, says.length() - 1) + "\n");
        Due.holds("it says so", at >= 0);
        for (String call : calls.split(" ")) {
            int next = source.indexOf("    public ", at);
            int end = next < 0 ? -1 : source.indexOf('(', next);
            Due.holds(call + " is next", next >= 0 && source.substring(next, end).endsWith(" " + call));
            at = end;
        }
    }
}
