/** Long runs of calls of every sort, held against the model of the document. */
public final class ModelTests {
    private static final int RUNS = 200;
    private static final int CALLS = 512;
    private static final String LETTERS = "ppppppwwwwwwlu";

    private final int run;
    private final OneBeatsBoth x = new OneBeatsBoth();
    private final Model m = new Model();
    private int seed;
    private int calls = 0;

    private ModelTests(int run) {
        this.run = run;
        this.seed = run * 7919 + 1;
    }

    public static void main(String[] args) {
        for (int run = 0; run < RUNS; run++) {
            new ModelTests(run).play();
        }
        everyRing();
        everyPerson();
        Due.end("ModelTests");
    }

    private static void everyRing() {
        for (int law = 0; law <= 3; law++) {
            for (int n = -1; n <= 10; n++) {
                for (int set = -3; set < 1 << Math.max(n, 1); set++) {
                    Due.is("round " + n + " " + set + " " + law, new OneBeatsBoth().round(n, set, law), Model.round(n, set, law));
                }
            }
            for (int n = -1; n <= 21; n++) {
                Due.is("byRounds " + n + " " + law, new OneBeatsBoth().byRounds(n, law), Model.byRounds(n, law));
                Due.is("ways " + n + " " + law, new OneBeatsBoth().ways(n, law), Model.ways(n, law));
            }
        }
    }

    private static void everyPerson() {
        for (int kind = -1; kind <= 8; kind++) {
            for (int figure = -1; figure <= 10; figure++) {
                OneBeatsBoth x = new OneBeatsBoth();
                Model m = new Model();
                String who = " of " + kind + " " + figure;
                Due.is("keep" + who, x.keep(0, 1, kind, figure), m.keep(0, 1, kind, figure));
                Due.is("price" + who, x.price(0), m.price(0));
                Due.is("toss" + who, x.toss(0), m.toss(0));
                Due.is("comes" + who, x.comes(0), m.comes(0));
                x.keep(1, 1, 0, 0);
                m.keep(1, 1, 0, 0);
                for (int wins = 0; wins <= 6; wins++) {
                    for (int what = 0; what < 6; what++) {
                        Due.is("one 0 " + what + who + " by " + wins + " wins", x.one(0, what), m.one(0, what));
                    }
                    Due.is("comes", x.comes(1), m.comes(1));
                    // Who comes is BEATEN by him: one win more.
                }
            }
        }
    }

    private int below(int n) {
        seed = seed * 1664525 + 1013904223;
        return (seed >>> 8) % n;
    }

    /** Mostly 0 .. n less 1; now and then beside it, or far off. */
    private int about(int n) {
        switch (below(36)) {
            case 0: return -1;
            case 1: return n;
            case 2: return below(2) == 0 ? Integer.MIN_VALUE : Integer.MAX_VALUE;
            default: return below(n);
        }
    }

    private int someone() {
        return about(Math.max(1, m.now.size()));
    }

    private void check(String call, long got, long want) {
        calls++;
        Due.is("run " + run + ", call " + calls + ": " + call, got, want);
    }

    private void play() {
        if (run % 4 == 0) {
            ringOfSeven();
        }
        while (calls < CALLS) {
            int sort = below(100);
            if (sort < 5 && calls + 102 <= CALLS) {
                readText();
            } else if (sort < 10 && calls + 12 <= CALLS) {
                askRow();
            } else {
                askLeague(below(41));
            }
        }
    }

    /** Without it hardly any league would ever be LAWFUL by LAW 2. */
    private void ringOfSeven() {
        for (int i = 0; i < 7; i++) {
            int kind = run % 8 == 0 ? 0 : below(8) * below(2);
            int figure = below(10);
            check("keep", x.keep(0, 1, kind, figure), m.keep(0, 1, kind, figure));
            check("comes", x.comes(0), m.comes(0));
        }
        for (int i = 0; i < 7; i++) {
            for (int d = 1; d <= 4; d *= 2) {
                check("beat", x.beat(i, (i + d) % 7), m.beat(i, (i + d) % 7));
            }
        }
    }

    private String text() {
        StringBuilder text = new StringBuilder();
        int statements = 1 + below(20);
        int people = m.now.size();
        for (int i = 0; i < statements; i++) {
            char letter = LETTERS.charAt(below(LETTERS.length()));
            if (letter == 'p' && people >= 7 && below(20) != 0) {
                letter = 'u';
            }
            text.append(letter);
            if (letter == 'p') {
                text.append(below(50) == 0 ? 8 + below(2) : below(8)).append(below(10));
                people++;
            } else if (letter == 'w') {
                int among = Math.max(2, people);
                int one = below(among);
                int other = below(50) == 0 ? below(10) : (one + 1 + below(among - 1)) % among;
                text.append(one).append(other);
            } else if (letter == 'l') {
                text.append(below(20) == 0 ? below(10) : 1 + below(2));
            } else {
                people = Math.max(0, people - 1);
            }
            text.append(';');
        }
        if (below(6) == 0) {
            text.setCharAt(below(text.length()), "pwlu;09:/ x".charAt(below(11)));
        }
        if (below(8) == 0) {
            text.setLength(below(text.length() + 1));
        }
        text.setLength(Math.min(100, text.length()));
        return text.toString();
    }

    private void readText() {
        String text = text();
        int d = below(8);
        check("row", x.row(d, 0, text.length()), m.row(d, 0, text.length()));
        for (int i = 0; i < text.length(); i++) {
            check("put", x.put(d, i, text.charAt(i)), m.put(d, i, text.charAt(i)));
        }
        check("league " + text, x.league(d), m.league(d));
    }

    /** A ROW that played or judge may well take. */
    private void askRow() {
        int n = below(10);
        int d = below(8);
        int sort = below(4) == 0 ? below(3) : 0;
        check("row", x.row(d, sort, n), m.row(d, sort, n));
        for (int i = 0; i < n; i++) {
            int v = below(20) == 0 ? about(8) : below(Math.max(1, m.now.size()));
            check("put", x.put(d, i, v), m.put(d, i, v));
        }
        if (below(2) == 0) {
            check("played " + d, x.played(d), m.played(d));
        } else {
            check("judge " + d, x.judge(d), m.judge(d));
        }
    }

    private void askLeague(int call) {
        int d = about(8);
        int i = someone();
        int j = someone();
        int what = about(4);
        int kind = about(8);
        int figure = about(10);
        switch (call) {
            case 0: check("one " + i + " 3", x.one(i, 3), m.one(i, 3)); break;
            case 1: check("one " + i + " " + kind, x.one(i, kind), m.one(i, kind)); break;
            case 2: check("comes " + d, x.comes(d), m.comes(d)); break;
            case 3:
            case 4: check("beat " + i + " " + j, x.beat(i, j), m.beat(i, j)); break;
            case 5: check("law " + what, x.law(what), m.law(what)); break;
            case 6: check("lawful", x.lawful(), m.lawful()); break;
            case 7: check("masters " + i + " " + j, x.masters(i, j), m.masters(i, j)); break;
            case 8: check("orphans " + what, x.orphans(what), m.orphans(what)); break;
            case 9: check("holding", x.holding(), m.holding()); break;
            case 10: check("free", x.free(), m.free()); break;
            case 11: check("rings", x.rings(), m.rings()); break;
            case 12: check("cup", x.cup(), m.cup()); break;
            case 13: check("right", x.right(), m.right()); break;
            case 14: check("cheapest", x.cheapest(), m.cheapest()); break;
            case 15:
                check("fresh " + kind + " " + figure + " " + what, x.fresh(kind, figure, what), m.fresh(kind, figure, what));
                break;
            case 16: check("leavers", x.leavers(), m.leavers()); break;
            case 17: check("odds " + what, x.odds(what), m.odds(what)); break;
            case 18: check("ways", x.ways(i, what), Model.ways(i, what)); break;
            case 19: check("round", x.round(7, 22, what), Model.round(7, 22, what)); break;
            case 20: check("byRounds", x.byRounds(figure, what), Model.byRounds(figure, what)); break;
            default: askRest(call, d, what, kind, figure); break;
        }
    }

    private void askRest(int call, int d, int what, int kind, int figure) {
        int e = about(8);
        int i = below(4) == 0 ? about(100) : about(6);
        int j = about(6);
        int n = about(6);
        int any = below(3) == 0 ? (seed >> 3) : about(300);
        switch (call) {
            case 21: check("played " + d, x.played(d), m.played(d)); break;
            case 22: check("seeded " + figure + " " + any, x.seeded(figure, any), m.seeded(figure, any)); break;
            case 23: check("seeded " + i + " " + any, x.seeded(i, any), m.seeded(i, any)); break;
            case 24: check("judge " + d, x.judge(d), m.judge(d)); break;
            case 25: check("image", x.image(), m.image()); break;
            case 26: check("restore", x.restore(), m.restore()); break;
            case 27: check("count " + what, x.count(what), m.count(what)); break;
            case 28:
            case 29:
                check("keep " + d, x.keep(d, what, kind, figure), m.keep(d, what, kind, figure));
                break;
            case 30:
                check("keep " + d, x.keep(d, 1, kind, figure), m.keep(d, 1, kind, figure));
                break;
            case 31:
            case 32: check("row " + d, x.row(d, what, i), m.row(d, what, i)); break;
            case 33:
            case 34: check("put " + d + " " + j, x.put(d, j, any), m.put(d, j, any)); break;
            case 35:
                calls++;
                Due.same("run " + run + ": element " + d + " " + j, Due.element(x, d, j), m.element(d, j));
                break;
            case 36:
            case 37:
                check("copy " + d + " " + i + " " + e + " " + j + " " + n, x.copy(d, i, e, j, n), m.copy(d, i, e, j, n));
                break;
            case 38: check("price " + d, x.price(d), m.price(d)); break;
            case 39: check("toss " + d, x.toss(d), m.toss(d)); break;
            default: check("league " + d, x.league(d), m.league(d)); break;
        }
    }
}
