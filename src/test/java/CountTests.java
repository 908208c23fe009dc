/** Promises 18 to 27: odds, counts, rounds, what was played, the image, what is told. */
public final class CountTests {
    public static void main(String[] args) {
        promise18Odds();
        promise19Ways();
        promise20Round();
        promise21ByRounds();
        promise22Played();
        promise22Refusals();
        promise23Seeded();
        promise24Judge();
        promise24Refusals();
        promise25Image();
        promise26Restore();
        promise27Count();
        Due.end("CountTests");
    }

    private static void odds(String text, long above, long below) {
        OneBeatsBoth x = Due.of(text);
        String before = Due.seen(x);
        // Whoever is only in mind leaves nothing behind.
        x.fresh(6, 0, 0);
        Due.is("ODDS above the line of " + text, x.odds(0), above);
        Due.is("ODDS below the line of " + text, x.odds(1), below);
        Due.same("nothing changes", Due.seen(x), before);
    }

    private static void promise18Odds() {
        OneBeatsBoth x = new OneBeatsBoth();
        Due.is("nobody", x.odds(0), 1);
        Due.is("nobody", x.odds(1), 1);
        odds("p00;", 1, 1);
        odds("p00;l1;", 0, 1);
        odds("p00;p00;", 0, 1);
        odds("p00;p00;p00;", 0, 1);
        odds("p00;p00;p00;l1;", 1, 4);
        // SKILLS 1, 2, 3: the rings 1/3 * 2/5 * 3/4 and 2/3 * 3/5 * 1/4.
        odds("p00;p01;p02;l1;", 1, 5);
        // SKILLS 1, 2, 10: the rings 1/3 * 2/12 * 10/11 and 2/3 * 10/12 * 1/11.
        odds("p50;p01;p70;l1;", 10, 99);
        // A NUISANCE with FIGURE 0 COUNTS no more when he wins.
        odds("p50;p10;p70;l1;", 0, 1);
        odds("p00;p00;p00;p00;l1;", 1, 2);
        odds("p03;p12;p24;p31;l1;", 4802, 9801);
        odds("p60;p60;p60;p60;l1;", 0, 1);
        Due.is("no part", x.odds(2), -1000000001L);
        Due.is("no part", x.odds(-1), -1000000001L);
        x = Due.of("p00;p00;p00;p00;p00;");
        Due.is("five", x.odds(0), -1000000003L);
        Due.is("five", x.odds(1), -1000000003L);
        Due.is("no part, and five", x.odds(2), -1000000001L);
    }

    private static void promise19Ways() {
        OneBeatsBoth x = Due.of("p60;p60;l1;");
        String before = Due.seen(x);
        int[][] due = {{0, 0, 2, 32, 704}, {1, 0, 0, 0, 0}};
        for (int law = 1; law <= 2; law++) {
            for (int n = 1; n <= 5; n++) {
                Due.is("WAYS of " + n + " by " + law, x.ways(n, law), due[law - 1][n - 1]);
            }
        }
        int[][] wrong = {{0, 1}, {6, 1}, {-1, 2}, {3, 0}, {3, 3}, {Integer.MAX_VALUE, 1}, {3, Integer.MIN_VALUE}};
        for (int[] w : wrong) {
            Due.is("not as told", x.ways(w[0], w[1]), -1);
        }
        Due.same("nothing changes", Due.seen(x), before);
    }

    private static void promise20Round() {
        OneBeatsBoth x = new OneBeatsBoth();
        Due.is("three, 1", x.round(3, 2, 1), 1);
        Due.is("three, 2", x.round(3, 4, 1), 1);
        Due.is("three, LAW 2", x.round(3, 2, 2), 0);
        Due.is("five", x.round(5, 6, 2), 0);
        Due.is("five, LAW 1", x.round(5, 6, 1), 1);
        Due.is("seven, 1 2 4", x.round(7, 2 + 4 + 16, 2), 1);
        Due.is("seven, 3 5 6", x.round(7, 8 + 32 + 64, 2), 1);
        Due.is("seven, 1 2 3", x.round(7, 2 + 4 + 8, 2), 0);
        // The squares 1, 4, 9, 16, 6, 17, 11, 7, 5 modulo 19.
        int squares = 1 << 1 | 1 << 4 | 1 << 9 | 1 << 16 | 1 << 6 | 1 << 17 | 1 << 11 | 1 << 7 | 1 << 5;
        Due.is("nineteen, the squares", x.round(19, squares, 2), 1);
        Due.is("nineteen, 1 .. 9", x.round(19, 1022, 2), 0);
        Due.is("nineteen, 10 .. 18", x.round(19, 1022 << 9, 2), 0);
        for (int n : new int[] {-3, -1, 0, 1, 2, 4, 6, 18, 20, 21, Integer.MAX_VALUE, Integer.MIN_VALUE}) {
            Due.is("a ring of " + n, x.round(n, 2, 1), -1);
        }
        Due.is("no LAW", x.round(3, 2, 0), -1);
        Due.is("no LAW", x.round(3, 2, 3), -1);
        Due.is("no LAW, and no set", x.round(3, 6, 3), -1);
        for (int set : new int[] {0, 1, 3, 6, 7, 8, 10, 2 + (1 << 30), Integer.MIN_VALUE, Integer.MIN_VALUE + 2, -1}) {
            Due.is("three by " + set, x.round(3, set, 1), -3);
        }
        Due.is("both 1 and 6", x.round(7, 22 + 64, 2), -3);
        Due.is("neither 1 nor 6", x.round(7, 20, 2), -3);
        Due.is("0, too", x.round(7, 23, 2), -3);
        Due.is("7, too", x.round(7, 22 + 128, 2), -3);
        Due.is("19, too", x.round(19, squares + (1 << 19), 2), -3);
    }

    private static void promise21ByRounds() {
        OneBeatsBoth x = new OneBeatsBoth();
        int[] two = {-4, -4, 22, 46, 94};
        for (int n = 3; n <= 11; n += 2) {
            Due.is("the least of " + n + " by LAW 1", x.byRounds(n, 1), (1 << (n + 1) / 2) - 2);
            Due.is("the least of " + n + " by LAW 2", x.byRounds(n, 2), two[(n - 3) / 2]);
        }
        for (int n = 7; n <= 19; n += 2) {
            int set = x.byRounds(n, 2);
            Due.is("it is LAWFUL by it", x.round(n, set, 2), 1);
            for (int less = 0; less < set; less++) {
                if (x.round(n, less, 2) == 1) {
                    Due.is("a lesser one for " + n, less, set);
                }
            }
        }
        Due.is("nineteen", x.byRounds(19, 2), 1534);
        for (int n : new int[] {-3, 0, 1, 2, 4, 20, 21, Integer.MAX_VALUE, Integer.MIN_VALUE}) {
            Due.is("a ring of " + n, x.byRounds(n, 2), -1);
        }
        Due.is("no LAW", x.byRounds(7, 0), -1);
        Due.is("no LAW", x.byRounds(7, 3), -1);
    }

    private static void promise22Played() {
        OneBeatsBoth x = Due.of("p00;p00;p00;l1;");
        x.row(0, 0, 0);
        Due.is("nothing told", x.played(0), 2);
        Due.fill(x, 0, 0, 0, 1);
        Due.is("0 has BEATEN 1", x.played(0), 1);
        Due.fill(x, 0, 0, 0, 1, 0, 1, 1, 2);
        Due.is("the same two again", x.played(0), 1);
        Due.fill(x, 0, 0, 0, 1, 0, 2);
        Due.is("one who won all", x.played(0), 0);
        Due.fill(x, 0, 0, 0, 1, 1, 0);
        Due.is("it can't be both", x.played(0), 0);
        x.law(2);
        Due.fill(x, 0, 0, 0, 1);
        Due.is("LAW 2", x.played(0), 0);
        x = Due.of("p00;p60;p00;l1;");
        Due.fill(x, 0, 0, 2, 0);
        Due.is("with a PRIEST", x.played(0), 0);
        x = Due.of("p00;p00;p00;p00;p00;l1;");
        x.row(0, 0, 0);
        Due.is("five", x.played(0), 704);
        Due.fill(x, 0, 0, 4, 0, 4, 1, 4, 2, 4, 3);
        Due.is("five, one won all", x.played(0), 0);
        Due.fill(x, 0, 0, 0, 4, 1, 4, 2, 4, 3, 4);
        Due.is("five, one lost all", x.played(0), 32);
        x.fresh(0, 0, 0);
        Due.is("another one in mind leaves nothing behind", x.played(0), 32);
        Due.is("WAYS tell what was told no more", x.ways(5, 1), 704);
        Due.fill(x, 0, 0, 0, 1, 1, 2, 0, 1);
        int twice = x.played(0);
        Due.fill(x, 0, 0, 0, 1, 1, 2);
        Due.is("the same two once", x.played(0), twice);
        x.row(0, 0, 0);
        Due.is("nobody", played(new OneBeatsBoth()), 1);
        Due.is("one alone", played(Due.of("p00;")), 1);
        Due.is("one alone, LAW 1", played(Due.of("p00;l1;")), 0);
    }

    private static int played(OneBeatsBoth x) {
        x.row(0, 0, 0);
        return x.played(0);
    }

    private static void promise22Refusals() {
        OneBeatsBoth x = Due.of("p00;p00;p00;w20;l1;");
        x.keep(1, 1, 0, 0);
        x.row(2, 1, 0);
        x.row(3, 2, 2);
        x.keep(4, 0, 0, 0);
        int[][] wrong = {{0}, {0, 1, 2}, {0, 0}, {0, 3}, {3, 0}, {-1, 0}, {0, -1}, {0, 1, 1, 1}, {0, 1, 127, 0}, {0, 1, 5}};
        for (int[] row : wrong) {
            Due.fill(x, 0, 0, row);
            Due.is("not as told", x.played(0), -13);
        }
        String before = Due.seen(x);
        Due.is("no SHELF", x.played(8), -1);
        Due.is("no SHELF", x.played(-1), -1);
        Due.is("one of PEOPLE", x.played(1), -12);
        Due.is("shorts", x.played(2), -12);
        Due.is("ints", x.played(3), -12);
        Due.is("nothing", x.played(4), -11);
        Due.same("nothing changes", Due.seen(x), before);
        Due.read(x, "p00;p00;p00;");
        Due.is("six, no SHELF", x.played(8), -1);
        Due.is("six", x.played(0), -3);
        Due.is("six, one of PEOPLE", x.played(1), -3);
        Due.is("six, nothing", x.played(4), -3);
    }

    private static void promise23Seeded() {
        OneBeatsBoth x = Due.of("p00;p00;p00;l1;");
        // z 1: DRAWS 16838, 5758, 10113 modulo 2: 0 beats 1, 0 beats 2, 2 beats 1.
        Due.is("one season from 1", x.seeded(1, 1), 0);
        // then 17515, 31051, 5627 modulo 2: all odd: 1 beats 0, 2 beats 0, 2 beats 1.
        Due.is("two seasons from 1", x.seeded(2, 1), 0);
        int[] due = new int[31];
        int seed = 77;
        for (int n = 1; n <= 30; n++) {
            boolean[] first = new boolean[3];
            for (int k = 0; k < 3; k++) {
                seed = seed * 1103515245 + 12345;
                first[k] = ((seed & 0x7fffffff) >>> 16) % 2 < 1;
            }
            // A ring: 0 beats 1, 1 beats 2, 2 beats 0; or the other way.
            due[n] = due[n - 1] + (first[0] == first[2] && first[0] != first[1] ? 1 : 0);
            Due.is("seasons from 77", x.seeded(n, 77), due[n]);
        }
        Due.holds("there are some", due[30] > 0 && due[30] < 30);
        x = Due.of("p72;p11;p33;p45;p58;l1;");
        Model m = new Model();
        m.law(1);
        int[][] people = {{7, 2}, {1, 1}, {3, 3}, {4, 5}, {5, 8}};
        for (int[] p : people) {
            m.now = m.now.with(p[0], p[1]);
        }
        String before = Due.seen(x);
        for (int z : new int[] {0, 1, -1, 12345, Integer.MAX_VALUE, Integer.MIN_VALUE}) {
            Due.is("thirty seasons from " + z, x.seeded(30, z), m.seeded(30, z));
        }
        Due.is("nobody", new OneBeatsBoth().seeded(30, 7), 30);
        for (int n : new int[] {0, -1, 31, Integer.MAX_VALUE, Integer.MIN_VALUE}) {
            Due.is("so many seasons", x.seeded(n, 5), -1);
        }
        Due.same("nothing changes", Due.seen(x), before);
    }

    private static int judged(OneBeatsBoth x, int sort, int... cells) {
        Due.fill(x, 0, sort, cells);
        return x.judge(0);
    }

    private static void promise24Judge() {
        OneBeatsBoth x = Due.of("p00;p00;p00;p60;w30;");
        for (int sort = 0; sort < 3; sort++) {
            Due.is("nothing", judged(x, sort), -4);
            Due.is("a master", judged(x, sort, 1, 2, 0), -4);
            Due.is("the same ones, the greater ahead", judged(x, sort, 2, 1, 0, 2, 3, 1), -4);
            Due.is("nobody", judged(x, sort, 4, 2, 0), 0);
            Due.is("nobody", judged(x, sort, -1, 2, 0), 0);
            Due.is("nobody for the other one", judged(x, sort, 1, 4, 0), 1);
            Due.is("nobody for the other one", judged(x, sort, 1, -1, 0), 1);
            Due.is("the first again", judged(x, sort, 1, 1, 0), 1);
            Due.is("nobody for a master", judged(x, sort, 1, 2, 4), 2);
            Due.is("nobody for a master", judged(x, sort, 1, 2, -1), 2);
            Due.is("no master", judged(x, sort, 0, 2, 1), 2);
            Due.is("one of both", judged(x, sort, 1, 2, 1), 2);
            Due.is("a master of one of both", judged(x, sort, 0, 2, 3), 2);
            Due.is("the second three", judged(x, sort, 1, 2, 0, 2, 2, 0), 4);
            Due.is("the second three's master", judged(x, sort, 1, 2, 0, 1, 2, 2, 9, 9, 9), 5);
            Due.is("one more", judged(x, sort, 1, 2, 0, 1), 3);
            Due.is("two more", judged(x, sort, 1, 2, 0, 1, 2), 3);
            Due.is("one alone", judged(x, sort, 1), 0);
            Due.is("two alone, nobody among them", judged(x, sort, 1, 9), 0);
            Due.is("two more, nobody among them", judged(x, sort, 1, 2, 0, 1, 9), 3);
            Due.is("what is wrong ahead goes ahead", judged(x, sort, 1, 2, 2, 1), 2);
        }
        Due.read(x, "w31;");
        Due.is("a PRIEST has BEATEN both", judged(x, 0, 0, 1, 3), 2);
        Due.is("an int's bits are no byte's", judged(x, 2, 256 + 1, 2, 0), 0);
        Due.is("a byte's are", judged(x, 0, 256 + 1, 2, 0), -4);
        Due.is("a far number for a master", judged(x, 2, 1, 2, 32), 2);
        Due.is("a far number for a master", judged(x, 2, 1, 2, Integer.MIN_VALUE), 2);
        x.law(1);
        Due.is("whatever the LAW", judged(x, 0, 1, 2, 0), -4);
    }

    private static void promise24Refusals() {
        OneBeatsBoth x = Due.of("p00;p00;");
        x.keep(1, 1, 0, 0);
        String before = Due.seen(x);
        Due.is("no SHELF", x.judge(8), -1);
        Due.is("no SHELF", x.judge(-1), -1);
        Due.is("nothing", x.judge(2), -11);
        Due.is("one of PEOPLE", x.judge(1), -12);
        Due.same("nothing changes", Due.seen(x), before);
    }

    private static void promise25Image() {
        OneBeatsBoth x = new OneBeatsBoth();
        Due.is("of nobody", x.image(), 0);
        Due.is("it is there", x.restore(), 0);
        Due.read(x, "p00;p12;p00;w20;");
        Due.is("of three", x.image(), 3);
        Due.read(x, "u;");
        Due.is("of two, in its place", x.image(), 2);
        Due.read(x, "u;l1;");
        Due.is("the latest", x.restore(), 2);
        Due.is("with its LAW", x.count(1), 2);
    }

    private static void promise26Restore() {
        OneBeatsBoth x = Due.of("p00;p12;p00;w20;l1;");
        String before = Due.seen(x);
        Due.is("there is none", x.restore(), -3);
        Due.same("nothing changes", Due.seen(x), before);
        x.image();
        x.beat(1, 0);
        x.law(2);
        x.keep(3, 1, 7, 7);
        x.comes(3);
        Due.read(x, "w31;");
        Due.is("RESTORED", x.restore(), 3);
        Due.is("PEOPLE", x.count(0), 3);
        Due.is("LAW", x.count(1), 1);
        Due.is("whom 0 has BEATEN", x.one(0, 3), 2);
        Due.is("whom 1 has BEATEN", x.one(1, 3), 4);
        Due.is("whom 2 has BEATEN", x.one(2, 3), 1);
        Due.is("KIND", x.one(1, 0), 1);
        Due.is("FIGURE", x.one(1, 1), 2);
        Due.is("SHELVES stay as they are", x.price(3), 12);
        Due.is("SHELVES stay as they are", x.league(7), 1 - 2001);
        Due.read(x, "u;u;u;p61;");
        Due.is("RESTORED again", x.restore(), 3);
        Due.is("KIND", x.one(0, 0), 0);
        Due.is("whom 2 has BEATEN", x.one(2, 3), 1);
    }

    private static void promise27Count() {
        OneBeatsBoth x = new OneBeatsBoth();
        int[] none = {0, 2, 0, 0};
        for (int what = 0; what < 4; what++) {
            Due.is("of nobody", x.count(what), none[what]);
        }
        Due.read(x, "p00;p11;p60;p52;p40;w30;l1;");
        Due.is("PEOPLE", x.count(0), 5);
        Due.is("LAW", x.count(1), 1);
        // Wins: 3; 3 of a NUISANCE's 1; a PRIEST; 2; 0.
        Due.is("those who COUNT", x.count(2), 3);
        Due.is("all PRICES", x.count(3), 3 + 4 + 11 + 3 + 2);
        for (int what : new int[] {-1, 4, Integer.MIN_VALUE, Integer.MAX_VALUE}) {
            Due.is("others", x.count(what), -1);
        }
    }
}
