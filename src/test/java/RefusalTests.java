/** All promises with refusals: what is refused changes nothing, neither what is there nor THE IMAGE. */
public final class RefusalTests {
    private static final int[] FAR = {-1, 8, Integer.MIN_VALUE, Integer.MAX_VALUE};
    /** What the shelves hold: 0 one of PEOPLE, 1 bytes, 2 shorts, 3 ints, 4 a text with a FAULT, 5 and on nothing. */
    private static final int BARE = 5;

    private final OneBeatsBoth x;
    private final String before;

    private RefusalTests(String league) {
        x = Due.of(league);
        x.image();
        Due.read(x, "l1;w10;");
        x.keep(0, 1, 6, 3);
        Due.fill(x, 1, 0, 1, 0, 0);
        Due.fill(x, 2, 1, 1, 0, 0);
        Due.fill(x, 3, 2, 1, 0, 0);
        Due.write(x, 4, "u;l2;w00;");
        x.keep(7, 0, 0, 0);
        before = Due.seen(x);
    }

    public static void main(String[] args) {
        RefusalTests few = new RefusalTests("p11;p52;p00;w20;");
        few.numbers();
        few.shelves();
        few.end("three", 3);
        RefusalTests many = new RefusalTests("p11;p52;p00;p40;p70;p30;p20;w20;");
        many.numbers();
        many.shelves();
        Due.is("comes, no room", many.x.comes(0), -2);
        Due.is("played, more than five", many.x.played(1), -3);
        Due.is("odds, more than four", many.x.odds(0), -1000000003L);
        many.end("seven", 7);
        OneBeatsBoth bare = new OneBeatsBoth();
        Due.is("restore, no image", bare.restore(), -3);
        Due.is("nobody came", bare.count(0), 0);
        Due.is("still none", bare.restore(), -3);
        Due.end("RefusalTests");
    }

    private void numbers() {
        for (int n : FAR) {
            Due.is("one", x.one(n, 0), -1);
            Due.is("one", x.one(0, n), -1);
            Due.is("beat", x.beat(n, 0), -1);
            Due.is("beat", x.beat(0, n), -1);
            Due.is("law", x.law(n), -1);
            Due.is("masters", x.masters(n, 0), -1);
            Due.is("masters", x.masters(0, n), -1);
            Due.is("orphans", x.orphans(n), -1);
            Due.is("fresh", x.fresh(n, 0, 0), -1);
            Due.is("fresh", x.fresh(0, 0, n), -1);
            Due.is("odds", x.odds(n), -1000000001L);
            Due.is("ways", x.ways(n, 1), -1);
            Due.is("ways", x.ways(3, n), -1);
            Due.is("round", x.round(n, 2, 1), -1);
            Due.is("round", x.round(3, 2, n), -1);
            Due.is("byRounds", x.byRounds(n, 1), -1);
            Due.is("byRounds", x.byRounds(3, n), -1);
            Due.is("count", x.count(n), -1);
            Due.is("keep", x.keep(0, n, 0, 0), -1);
            Due.is("keep", x.keep(0, 1, n, 0), -1);
            Due.is("row", x.row(0, n, 1), -1);
        }
        for (int n : new int[] {-1, 10}) {
            Due.is("fresh", x.fresh(0, n, 0), -1);
            Due.is("keep", x.keep(0, 1, 0, n), -1);
        }
        for (int n : new int[] {0, 31, -5}) {
            Due.is("seeded", x.seeded(n, 5), -1);
        }
        Due.is("beat, one twice", x.beat(1, 1), -1);
        Due.is("masters, one twice", x.masters(1, 1), -1);
        Due.is("round, no such set", x.round(7, 23, 2), -3);
    }

    private void shelves() {
        boolean few = x.count(0) <= 5;
        for (int d : FAR) {
            Due.is("league", x.league(d), -1);
            Due.is("comes", x.comes(d), -1);
            Due.is("played", x.played(d), -1);
            Due.is("judge", x.judge(d), -1);
            Due.is("keep", x.keep(d, 0, 0, 0), -1);
            Due.is("row", x.row(d, 0, 1), -1);
            Due.is("put", x.put(d, 0, 1), -1);
            Due.is("copy", x.copy(d, 0, 1, 0, 1), -1);
            Due.is("copy", x.copy(1, 0, d, 0, 1), -1);
            Due.is("price", x.price(d), -1);
            Due.is("toss", x.toss(d), -1);
            Due.same("element", Due.element(x, d, 0), "throws.IllegalArgumentException");
            Due.is("put, no place", x.put(1, d < 0 ? d : d / 2 + 1, 1), -13);
        }
        for (int d : new int[] {BARE, 0, 2, 3}) {
            int due = d == BARE ? -11 : -12;
            Due.is("league", x.league(d), due);
            Due.is("played", x.played(d), few ? due : -3);
        }
        Due.is("league, a FAULT", x.league(4), -2005);
        Due.is("league, a FAULT", x.league(1), -1000);
        Due.is("comes", x.comes(BARE), -11);
        Due.is("comes", x.comes(1), -12);
        Due.is("played, an odd size", x.played(1), few ? -13 : -3);
        Due.is("judge", x.judge(BARE), -11);
        Due.is("judge", x.judge(0), -12);
        Due.is("row", x.row(1, 0, 101), -1);
        Due.is("row", x.row(1, 0, -1), -14);
        Due.is("put", x.put(BARE, 0, 1), -11);
        Due.is("put", x.put(0, 0, 1), -12);
        Due.is("copy", x.copy(BARE, 0, 1, 0, 1), -11);
        Due.is("copy", x.copy(1, 0, 2, 0, 1), -12);
        Due.is("copy", x.copy(1, 0, 4, 8, 2), -13);
        Due.is("price", x.price(BARE), -11);
        Due.is("price", x.price(1), -12);
        Due.is("toss", x.toss(BARE), -11);
        Due.is("toss", x.toss(1), -12);
        Due.same("element", Due.element(x, 0, 0), "throws.IllegalStateException");
    }

    private void end(String who, int people) {
        Due.same("what is there, " + who, Due.seen(x), before);
        Due.is("THE IMAGE", x.restore(), people);
        Due.is("its LAW", x.count(1), 2);
        Due.is("whom 1 has BEATEN", x.one(1, 3) & 1, 0);
    }
}
