/** REFUSALS, several of them at once, and that a refused call changes nothing. */
final class RefusalEdges {
    private static final int LEAST = Integer.MIN_VALUE;
    private static final int MOST = Integer.MAX_VALUE;
    /** What the SHELVES hold in front of every refused call. */
    private static final int PAID = 0;
    private static final int BYTES = 1;
    private static final int SHORTS = 2;
    private static final int INTS = 3;
    private static final int NOT_AS_TOLD = 4;
    private static final int NOTHING = 5;
    private static final int BROKEN = 6;
    private static final int EMPTY = 7;

    private interface Call {
        long on(OneBeatsBoth x);
    }

    private RefusalEdges() {
    }

    static void run() {
        kindsOfRefusals();
        nothingChanges();
        nothingChangesOfPeople();
        firstOfSeveral();
        firstOfSeveralCopied();
        roomLast();
        lessByAMilliard();
        imagesThatAreNone();
    }

    /** So many PEOPLE by LAW 1, an IMAGE of them when 1 hadn't BEATEN 0, and LAW was 2, and the SHELVES. */
    private static OneBeatsBoth setUp(int people) {
        OneBeatsBoth x = new OneBeatsBoth();
        for (int i = 0; i < people; i++) {
            x.keep(PAID, 1, 7 - i, i);
            x.comes(PAID);
        }
        x.image();
        x.beat(1, 0);
        x.law(1);
        x.keep(PAID, 1, 2, 9);
        Due.fill(x, BYTES, 0, 1, 0, 0);
        Due.fill(x, SHORTS, 1, 1, 0, 0);
        Due.fill(x, INTS, 2, 1, 0, 0);
        Due.write(x, NOT_AS_TOLD, "u;l2;w00;");
        Due.write(x, BROKEN, "u;l2;w1");
        x.row(EMPTY, 0, 0);
        return x;
    }

    private static void refused(String what, int people, Call call, long due) {
        OneBeatsBoth x = setUp(people);
        String before = Due.seen(x);
        Due.is(what + " of " + people, call.on(x), due);
        Due.same("what is there behind " + what, Due.seen(x), before);
        OneBeatsBoth untouched = setUp(people);
        Due.is("THE IMAGE behind " + what, x.restore(), untouched.restore());
        Due.same("THE IMAGE behind " + what, Due.seen(x), Due.seen(untouched));
    }

    /** element, for which 1 is IllegalArgumentException and 2 IllegalStateException. */
    private static long thrown(OneBeatsBoth x, int d, int i) {
        String answer = Due.element(x, d, i);
        return answer.equals("throws.IllegalArgumentException") ? 1 : answer.equals("throws.IllegalStateException") ? 2 : 0;
    }

    private static void kindsOfRefusals() {
        Doc.says("Terms", "Their REFUSALS: -11 nothing is held where something is wanted; -12 it is of another kind; -13 a place that isn't there "
            + "(a number or a size that isn't as told, too); -14 a size below 0; -15 a FAILURE that is none.");
        refused("league of nothing", 3, x -> x.league(NOTHING), -11);
        refused("comes of nothing", 3, x -> x.comes(NOTHING), -11);
        refused("played of nothing", 3, x -> x.played(NOTHING), -11);
        refused("judge of nothing", 3, x -> x.judge(NOTHING), -11);
        refused("put into nothing", 3, x -> x.put(NOTHING, 0, 1), -11);
        refused("copy from nothing", 3, x -> x.copy(NOTHING, 0, BYTES, 0, 1), -11);
        refused("copy to nothing", 3, x -> x.copy(BYTES, 0, NOTHING, 0, 1), -11);
        refused("price of nothing", 3, x -> x.price(NOTHING), -11);
        refused("toss of nothing", 3, x -> x.toss(NOTHING), -11);
        refused("league of one", 3, x -> x.league(PAID), -12);
        refused("league of shorts", 3, x -> x.league(SHORTS), -12);
        refused("league of ints", 3, x -> x.league(INTS), -12);
        refused("comes of a ROW", 3, x -> x.comes(EMPTY), -12);
        refused("played of one", 3, x -> x.played(PAID), -12);
        refused("played of shorts", 3, x -> x.played(SHORTS), -12);
        refused("played of ints", 3, x -> x.played(INTS), -12);
        refused("judge of one", 3, x -> x.judge(PAID), -12);
        refused("put into one", 3, x -> x.put(PAID, 0, 1), -12);
        refused("copy from one", 3, x -> x.copy(PAID, 0, BYTES, 0, 1), -12);
        refused("copy to another SORT", 3, x -> x.copy(BYTES, 0, SHORTS, 0, 1), -12);
        refused("price of a ROW", 3, x -> x.price(INTS), -12);
        refused("toss of a ROW", 3, x -> x.toss(EMPTY), -12);
        refused("put at no place", 3, x -> x.put(BYTES, 3, 1), -13);
        refused("put into an empty ROW", 3, x -> x.put(EMPTY, 0, 1), -13);
        refused("copy from no place", 3, x -> x.copy(BYTES, 3, BROKEN, 0, 1), -13);
        refused("copy to no place", 3, x -> x.copy(BYTES, 0, BROKEN, 7, 1), -13);
        refused("copy of a part to no place", 3, x -> x.copy(BYTES, 0, BROKEN, 5, 3), -13);
        refused("copy in a ROW to no place", 3, x -> x.copy(BROKEN, 0, BROKEN, 1, 7), -13);
        refused("copy below 0", 3, x -> x.copy(BYTES, 1, BROKEN, 1, -1), -13);
        refused("played of an odd size", 3, x -> x.played(BYTES), -13);
        refused("row of a size below 0", 3, x -> x.row(BYTES, 0, -1), -14);
        refused("toss of one who is PAID", 3, x -> x.toss(PAID), -15);
    }

    private static void nothingChanges() {
        Doc.says("Terms", "A refused call changes nothing.");
        refused("league with a FAULT", 3, x -> x.league(NOT_AS_TOLD), -2005);
        refused("league with a FAULT", 3, x -> x.league(BROKEN), -1007);
        refused("league with a FAULT", 3, x -> x.league(BYTES), -1000);
        refused("league of an empty ROW", 3, x -> x.league(EMPTY), -1000);
        for (int far : new int[] {-1, 8, LEAST, MOST}) {
            refused("league", 3, x -> x.league(far), -1);
            refused("comes", 3, x -> x.comes(far), -1);
            refused("played", 3, x -> x.played(far), -1);
            refused("judge", 3, x -> x.judge(far), -1);
            refused("keep", 3, x -> x.keep(far, 0, 0, 0), -1);
            refused("keep", 3, x -> x.keep(far, 1, 0, 0), -1);
            refused("keep", 3, x -> x.keep(PAID, far, 0, 0), -1);
            refused("keep", 3, x -> x.keep(PAID, 1, far, 0), -1);
            refused("keep", 3, x -> x.keep(BYTES, 1, 0, far == 8 ? 10 : far), -1);
            refused("row", 3, x -> x.row(far, 0, 1), -1);
            refused("row", 3, x -> x.row(PAID, far, 1), -1);
            refused("put", 3, x -> x.put(far, 0, 1), -1);
            refused("put", 3, x -> x.put(BYTES, far, 1), -13);
            refused("element", 3, x -> thrown(x, far, 0), 1);
            refused("element", 3, x -> thrown(x, BYTES, far), 2);
            refused("copy", 3, x -> x.copy(far, 0, BYTES, 0, 1), -1);
            refused("copy", 3, x -> x.copy(BYTES, 0, far, 0, 1), -1);
            refused("copy", 3, x -> x.copy(BYTES, far, BROKEN, 0, 1), -13);
            refused("copy", 3, x -> x.copy(BYTES, 0, BROKEN, far, 1), -13);
            refused("price", 3, x -> x.price(far), -1);
            refused("toss", 3, x -> x.toss(far), -1);
        }
        refused("row", 3, x -> x.row(BYTES, 0, 101), -1);
        refused("row", 3, x -> x.row(NOTHING, 0, -1), -14);
    }

    private static void nothingChangesOfPeople() {
        Doc.says("Terms", "A refused call changes nothing.");
        for (int far : new int[] {-1, 3, 8, LEAST, MOST}) {
            refused("one", 3, x -> x.one(far, 0), -1);
            refused("one", 3, x -> x.one(0, far == 3 ? 6 : far), -1);
            refused("beat", 3, x -> x.beat(far, 0), -1);
            refused("beat", 3, x -> x.beat(2, far), -1);
            refused("law", 3, x -> x.law(far), -1);
            refused("masters", 3, x -> x.masters(far, 0), -1);
            refused("masters", 3, x -> x.masters(2, far), -1);
            refused("orphans", 3, x -> x.orphans(far), -1);
            refused("fresh", 3, x -> x.fresh(far == 3 ? 9 : far, 0, 0), -1);
            refused("fresh", 3, x -> x.fresh(0, far == 3 || far == 8 ? 10 : far, 0), -1);
            refused("fresh", 3, x -> x.fresh(0, 0, far), -1);
            refused("ways", 3, x -> x.ways(far == 3 ? 6 : far, 1), -1);
            refused("ways", 3, x -> x.ways(3, far), -1);
            refused("round", 3, x -> x.round(far == 3 ? 21 : far, 2, 1), -1);
            refused("round", 3, x -> x.round(3, 2, far), -1);
            refused("byRounds", 3, x -> x.byRounds(far == 3 ? 21 : far, 2), -1);
            refused("byRounds", 3, x -> x.byRounds(7, far), -1);
            refused("seeded", 3, x -> x.seeded(far == 3 || far == 8 ? 31 : far, 1), -1);
            refused("count", 3, x -> x.count(far == 3 ? 4 : far), -1);
        }
        for (int i = 0; i < 3; i++) {
            int one = i;
            refused("beat, one twice", 3, x -> x.beat(one, one), -1);
            refused("masters, one twice", 3, x -> x.masters(one, one), -1);
        }
        refused("round", 3, x -> x.round(7, 23, 2), -3);
        refused("byRounds", 3, x -> x.byRounds(5, 2), -4);
    }

    private static void firstOfSeveral() {
        Doc.says("Terms", "Answers of several refusals are the first one as they are told at the call:");
        refused("played, six ahead of nothing", 6, x -> x.played(NOTHING), -3);
        refused("played, six ahead of one", 6, x -> x.played(PAID), -3);
        refused("played, six ahead of shorts", 6, x -> x.played(SHORTS), -3);
        refused("played, six ahead of an odd size", 6, x -> x.played(BYTES), -3);
        refused("played, six", 6, x -> x.played(EMPTY), -3);
        refused("played, no SHELF ahead of six", 6, x -> x.played(8), -1);
        refused("played, five and nothing", 5, x -> x.played(NOTHING), -11);
        refused("played, shorts ahead of an odd size", 5, x -> x.played(SHORTS), -12);
        refused("played, five and an odd size", 5, x -> x.played(BYTES), -13);
        refused("round, n ahead of the set", 3, x -> x.round(4, 23, 2), -1);
        refused("round, LAW ahead of the set", 3, x -> x.round(7, 23, 3), -1);
        refused("round, the set", 3, x -> x.round(7, 23, 2), -3);
        refused("byRounds, LAW ahead of none", 3, x -> x.byRounds(5, 3), -1);
        refused("byRounds, n ahead of none", 3, x -> x.byRounds(4, 2), -1);
        refused("orphans, no such thing ahead of none", 1, x -> x.orphans(2), -1);
        refused("fresh, KIND ahead of none", 1, x -> x.fresh(8, 0, 1), -1);
        refused("fresh, FIGURE ahead of none", 1, x -> x.fresh(0, 10, 1), -1);
        refused("row, SHELF ahead of a size below 0", 3, x -> x.row(8, 0, -1), -1);
        refused("row, SORT ahead of a size below 0", 3, x -> x.row(BYTES, 3, -1), -1);
        refused("row, a size below 0", 3, x -> x.row(BYTES, 2, -1), -14);
        refused("put, SHELF ahead of a place", 3, x -> x.put(8, -1, 1), -1);
        refused("put, nothing ahead of a place", 3, x -> x.put(NOTHING, -1, 1), -11);
        refused("put, one ahead of a place", 3, x -> x.put(PAID, -1, 1), -12);
        refused("element, SHELF ahead of a place", 3, x -> thrown(x, 8, -1), 1);
        refused("element, nothing and no place", 3, x -> thrown(x, NOTHING, -1), 2);
        refused("league, a byte that is none ahead of what isn't as told", 0, x -> x.league(BROKEN), -1007);
        refused("league, of two not as told the first", 0, x -> x.league(NOT_AS_TOLD), -2000);
    }

    private static void firstOfSeveralCopied() {
        Doc.says("Terms", "Answers of several refusals are the first one as they are told at the call:");
        int[][] due = {
            {8, 0, NOTHING, 0, 1, -1}, {NOTHING, 0, 8, 0, 1, -1}, {8, 0, PAID, 0, 1, -1}, {PAID, 0, 8, 0, 1, -1},
            {8, 9, BYTES, 9, -1, -1}, {BYTES, 9, -1, 9, -1, -1}, {8, 0, -1, 0, 1, -1},
            {NOTHING, 0, PAID, 0, 1, -11}, {PAID, 0, NOTHING, 0, 1, -11}, {NOTHING, 9, BYTES, 9, -1, -11},
            {BYTES, 9, NOTHING, 9, -1, -11}, {NOTHING, 9, NOTHING, 9, -1, -11},
            {PAID, 9, BYTES, 9, -1, -12}, {BYTES, 9, PAID, 9, -1, -12}, {BYTES, 9, SHORTS, 9, -1, -12},
            {SHORTS, 0, INTS, 3, 1, -12}, {PAID, 0, PAID, 0, 0, -12},
            {BYTES, 9, BYTES, 9, -1, -13}, {BYTES, 4, BROKEN, 0, 0, -13}
        };
        for (int[] c : due) {
            refused("copy " + java.util.Arrays.toString(c), 3, x -> x.copy(c[0], c[1], c[2], c[3], c[4]), c[5]);
        }
    }

    private static void roomLast() {
        Doc.says("Terms", "-1 no such thing, a number out of range, or not as told; -2 no room; -3 it can't be as things stand; -4 none; -11 to -15;");
        refused("comes, no SHELF and no room", 7, x -> x.comes(8), -1);
        refused("comes, nothing and no room", 7, x -> x.comes(NOTHING), -11);
        refused("comes, a ROW and no room", 7, x -> x.comes(BYTES), -12);
        refused("comes, no room", 7, x -> x.comes(PAID), -2);
        refused("league, no room", 7, x -> {
            Due.write(x, EMPTY, "p00;");
            int answer = x.league(EMPTY);
            x.row(EMPTY, 0, 0);
            return answer;
        }, -2000);
        refused("odds", 5, x -> x.odds(0), -1000000003L);
        refused("cup", 0, OneBeatsBoth::cup, -4);
        refused("orphans", 0, x -> x.orphans(1), -4);
        refused("right", 1, OneBeatsBoth::right, -4);
        refused("cheapest", 1, OneBeatsBoth::cheapest, -4);
        refused("fresh", 1, x -> x.fresh(0, 0, 1), -4);
        refused("toss", 7, x -> x.toss(PAID), -15);
    }

    private static void lessByAMilliard() {
        Doc.says("Terms", "where longs are answered 1000000000 less.");
        for (int n = 0; n <= 7; n++) {
            refused("odds, no part", n, x -> x.odds(-1), -1000000001L);
            refused("odds, no part", n, x -> x.odds(2), -1000000001L);
            if (n > 4) {
                refused("odds, too many", n, x -> x.odds(1), -1000000003L);
            }
        }
    }

    private static void imagesThatAreNone() {
        Doc.says("Terms", "-3 it can't be as things stand;");
        OneBeatsBoth x = Leagues.inARow(7);
        Due.fill(x, 1, 0, 4, 4);
        String before = Due.seen(x);
        Due.is("no IMAGE", x.restore(), -3);
        Due.same("nothing changes", Due.seen(x), before);
        Due.is("still no IMAGE", x.restore(), -3);
        x.image();
        Due.is("an IMAGE", x.restore(), 7);
    }
}
