/** ODDS and on, PLAYED and on, JUDGED, THE IMAGE, and promises 18 to 27, at their edges. */
final class CountEdges {
    private static final int LEAST = Integer.MIN_VALUE;
    private static final int MOST = Integer.MAX_VALUE;

    private CountEdges() {
    }

    static void run() {
        odds();
        promise18();
        ways();
        promise19();
        rounds();
        setsOfDifferences();
        promise20();
        leastSets();
        promise21();
        played();
        playedTold();
        promise22();
        seasons();
        draws();
        promise23();
        judged();
        promise24();
        images();
        promises25And26();
        shelvesStay();
        promise27();
    }

    private static void odds(String text, long above, long below) {
        OneBeatsBoth x = Due.of(text);
        Due.is("above the line: " + text, x.odds(0), above);
        Due.is("below the line: " + text, x.odds(1), below);
    }

    private static void odds() {
        Doc.says("Terms", "ODDS (of 4 PEOPLE at most): that, if all matches were played anew, the league is LAWFUL: one beats another one "
            + "with the odds SKILL by both SKILLS together, a fraction in least terms.");
        odds("l2;", 1, 1);
        odds("l1;", 1, 1);
        odds("p00;", 1, 1);
        odds("p00;l1;", 0, 1);
        odds("p19;p19;", 0, 1);
        odds("p19;p19;l1;", 0, 1);
        odds("p00;p00;p00;l1;", 1, 4);
        odds("p00;p00;p00;w20;l1;", 1, 4);
        odds("p00;p01;p02;l1;", 1, 5);
        odds("p00;p00;p00;p00;l1;", 1, 2);
        odds("p00;p00;p00;p00;", 0, 1);
        // As they are summed up, 40 to the sixth below the line is no int.
        odds("p19;p19;p19;p19;l1;", 1, 2);
        odds("p79;p19;p49;p78;l1;", 1039682, 2082249);
        odds("p75;p76;p77;p79;l1;", 347934409, 701205120);
        odds("p79;p77;p76;p75;w30;w21;l1;", 347934409, 701205120);
        odds("p50;p01;p70;l1;", 10, 99);
        odds("p50;p10;p70;l1;", 0, 1);
        odds("p60;p60;p60;p60;l1;", 0, 1);
    }

    private static void promise18() {
        Doc.says("Promise 18: odds", "ODDS, part 0 above, 1 below the line. -1000000001, -1000000003 more than 4 PEOPLE.");
        for (int n = 0; n <= 7; n++) {
            OneBeatsBoth x = Leagues.inARow(n);
            x.law(1);
            long[][] due = {{1, 1}, {0, 1}, {0, 1}, {1, 4}, {1, 2}, {-1000000003, -1000000003}};
            for (int part = 0; part <= 1; part++) {
                Due.is(n + " PEOPLE, part " + part, x.odds(part), due[Math.min(n, 5)][part]);
            }
            for (int part : new int[] {-1, 2, LEAST, MOST}) {
                Due.is(n + " PEOPLE, no part", x.odds(part), -1000000001L);
            }
        }
    }

    private static void ways() {
        Doc.says("Terms", "WAYS: of n PLAYERS (FIGURE 0; 1 .. 5) in how many ways they can have played that it is LAWFUL.");
        int[][] due = {{0, 0, 2, 32, 704}, {1, 0, 0, 0, 0}};
        OneBeatsBoth many = Leagues.sevenOf(6, 9);
        for (int n = 1; n <= 5; n++) {
            for (int law = 1; law <= 2; law++) {
                Due.is(n + " by " + law, new OneBeatsBoth().ways(n, law), due[law - 1][n - 1]);
                Due.is(n + " by " + law + ", whoever is there", many.ways(n, law), due[law - 1][n - 1]);
            }
        }
    }

    private static void promise19() {
        Doc.says("Promise 19: ways", "WAYS, by a LAW. -1.");
        OneBeatsBoth x = new OneBeatsBoth();
        x.law(1);
        Due.is("by the LAW that is told", x.ways(1, 2), 1);
        Due.is("by the LAW that is told", x.ways(1, 1), 0);
        for (int n : new int[] {0, 6, -1, 7, LEAST, MOST}) {
            Due.is(n + " PLAYERS", x.ways(n, 1), -1);
            Due.is(n + " PLAYERS", x.ways(n, 2), -1);
        }
        for (int law : new int[] {0, 3, -1, LEAST, MOST}) {
            Due.is("LAW " + law, x.ways(1, law), -1);
            Due.is("LAW " + law, x.ways(5, law), -1);
        }
        Due.is("the LAW there stays", x.count(1), 1);
    }

    private static int round(int n, int set, int law) {
        return new OneBeatsBoth().round(n, set, law);
    }

    private static void rounds() {
        Doc.says("Terms", "n PLAYERS in a ring, each has BEATEN those who come so many behind him: whether that is LAWFUL (1, 0);");
        for (int n = 3; n <= 19; n += 2) {
            int half = (n - 1) / 2;
            int first = (1 << (half + 1)) - 2;
            int last = first << half;
            Due.is("the first differences of " + n + ", LAW 1", round(n, first, 1), 1);
            Due.is("the last differences of " + n + ", LAW 1", round(n, last, 1), 1);
            // 0 and the one half way round are BEATEN by nobody together.
            Due.is("the first differences of " + n + ", LAW 2", round(n, first, 2), 0);
            Due.is("the last differences of " + n + ", LAW 2", round(n, last, 2), 0);
        }
        Due.is("1, 2, 4 of seven", round(7, 2 + 4 + 16, 2), 1);
        Due.is("3, 5, 6 of seven", round(7, 8 + 32 + 64, 2), 1);
        int lawful = 0;
        for (int set = 0; set < 128; set += 2) {
            lawful += round(7, set, 2) == 1 ? 1 : 0;
        }
        Due.is("no others of seven", lawful, 2);
    }

    private static void setsOfDifferences() {
        Doc.says("Terms", "ROUND n (3, 5, .. 19) and a set of differences (bits 1 .. n less 1; of each d and n less d just one):");
        for (int n = 3; n <= 19; n += 2) {
            int half = (n - 1) / 2;
            int set = (1 << (half + 1)) - 2;
            for (int d = 1; d <= half; d++) {
                Due.is(d + " and its other", round(n, set | 1 << (n - d), 1), -3);
                Due.is("neither " + d + " nor its other", round(n, set & ~(1 << d), 1), -3);
                Due.is("its other for " + d, round(n, set ^ 1 << d ^ 1 << (n - d), 1), 1);
            }
            Due.is("0, too", round(n, set | 1, 1), -3);
            for (int d = n; d < 32; d++) {
                Due.is(d + ", too", round(n, set | 1 << d, 1), -3);
            }
            Due.is("nothing", round(n, 0, 1), -3);
            Due.is("all", round(n, -1, 1), -3);
        }
    }

    private static void promise20() {
        Doc.says("Promise 20: round", "ROUND, by a LAW: 1, 0. -1 (n, LAW), -3 the set is not as told.");
        for (int n = -3; n <= 23; n++) {
            boolean is = n >= 3 && n <= 19 && n % 2 == 1;
            Due.is("nothing for " + n, round(n, 0, 1), is ? -3 : -1);
            Due.is("nothing for " + n + ", LAW 2", round(n, 0, 2), is ? -3 : -1);
            Due.is("LAW 0 for " + n, round(n, 0, 0), -1);
            Due.is("LAW 3 for " + n, round(n, 0, 3), -1);
        }
        Due.is("the least n", round(LEAST, 2, 1), -1);
        Due.is("n 3 and the sign", round(LEAST + 3, 2, 1), -1);
        Due.is("the most n", round(MOST, 2, 1), -1);
        Due.is("the least LAW", round(3, 2, LEAST), -1);
        Due.is("the most LAW", round(3, 2, MOST), -1);
        Due.is("1", round(3, 2, 1), 1);
        Due.is("0", round(3, 2, 2), 0);
    }

    private static void leastSets() {
        Doc.says("Terms", "BY ROUNDS: the least such set (as bits) by which it is; -4.");
        int[] two = {-4, -4, 22, 46, 94, 190, 382, 766, 1534};
        for (int n = 3; n <= 19; n += 2) {
            int least = two[(n - 3) / 2];
            Due.is(n + " by LAW 1", new OneBeatsBoth().byRounds(n, 1), (1 << (n + 1) / 2) - 2);
            Due.is(n + " by LAW 2", new OneBeatsBoth().byRounds(n, 2), least);
            Due.is("it is LAWFUL by it", round(n, least, 2), least < 0 ? -3 : 1);
            int lesser = 0;
            for (int set = 0; set < (least < 0 ? 1 << n : least); set++) {
                lesser += round(n, set, 2) == 1 ? 1 : 0;
            }
            Due.is("lesser ones for " + n, lesser, 0);
        }
    }

    private static void promise21() {
        Doc.says("Promise 21: byRounds", "BY ROUNDS, by a LAW; -4. -1 (n, LAW).");
        OneBeatsBoth x = new OneBeatsBoth();
        Due.is("none", x.byRounds(3, 2), -4);
        Due.is("none", x.byRounds(5, 2), -4);
        Due.is("the first", x.byRounds(7, 2), 22);
        for (int n : new int[] {-1, 0, 1, 2, 4, 18, 20, 21, LEAST, LEAST + 3, MOST}) {
            Due.is("n " + n, x.byRounds(n, 1), -1);
            Due.is("n " + n, x.byRounds(n, 2), -1);
        }
        for (int law : new int[] {0, 3, -1, LEAST, MOST}) {
            Due.is("LAW " + law, x.byRounds(3, law), -1);
            Due.is("LAW " + law, x.byRounds(19, law), -1);
        }
    }

    private static int played(OneBeatsBoth x, int... pairs) {
        Due.fill(x, 0, 0, pairs);
        return x.played(0);
    }

    private static int[] again(int times, int... pair) {
        int[] all = new int[2 * times];
        for (int i = 0; i < all.length; i++) {
            all[i] = pair[i % 2];
        }
        return all;
    }

    private static void played() {
        Doc.says("Terms", "PLAYED: a ROW of bytes, by twos two unlike PEOPLE of whom the first has BEATEN the second (5 PEOPLE at most, "
            + "the same two may be told again):");
        int[] due = {1, 0, 0, 2, 32, 704, -3, -3};
        int[] first = {-13, -13, 0, 1, 16, 352, -3, -3};
        for (int n = 0; n <= 7; n++) {
            OneBeatsBoth x = Leagues.inARow(n);
            x.law(1);
            Due.is(n + " PEOPLE, an empty ROW", played(x), due[n]);
            Due.is(n + " PEOPLE, 0 has BEATEN 1", played(x, 0, 1), first[n]);
            Due.is(n + " PEOPLE, the last has BEATEN 0", played(x, n - 1, 0), n == 1 ? -13 : first[n]);
            Due.is(n + " PEOPLE, nobody has BEATEN 0", played(x, n, 0), n > 5 ? -3 : -13);
            Due.is(n + " PEOPLE, 0 has BEATEN nobody", played(x, 0, n), n > 5 ? -3 : -13);
        }
        OneBeatsBoth x = Leagues.inARow(5);
        x.law(1);
        Due.is("the same two again, a full ROW", played(x, again(50, 0, 1)), 352);
        Due.is("the same two again, a full ROW", played(x, again(50, 4, 3)), 352);
        Due.is("a ring of three", played(x, 0, 1, 1, 2, 2, 0), 112);
        Due.is("a ring of three, told again", played(x, 2, 0, 0, 1, 1, 2, 2, 0, 0, 1), 112);
    }

    private static void playedTold() {
        Doc.says("Terms", "in how many ways all can have played so that all this is so, and it is LAWFUL.");
        OneBeatsBoth x = Leagues.inARow(3);
        Due.is("LAW 2", played(x), 0);
        x.law(1);
        Due.is("both rings", played(x), 2);
        Due.is("one ring", played(x, 2, 0), 1);
        Due.is("the same ring, all told", played(x, 0, 1, 1, 2, 2, 0), 1);
        Due.is("no ring", played(x, 0, 1, 0, 2), 0);
        Due.is("both of one match", played(x, 0, 1, 1, 0), 0);
        Due.is("whoever has BEATEN whom by now", played(x, 1, 0), 1);
        x = Due.of("p00;p11;p40;p52;p73;l1;");
        Due.is("five of KINDS", played(x), 340);
        Due.is("five of KINDS, one match", played(x, 4, 0), 170);
        Due.is("five of KINDS, two matches", played(x, 3, 4, 1, 2), 65);
        x.law(2);
        Due.is("five, LAW 2", played(x), 0);
    }

    private static void promise22() {
        Doc.says("Promise 22: played", "PLAYED by the ROW in SHELF d. -1, -3 more than 5 PEOPLE, -11, -12 (no ROW of bytes), "
            + "-13 (an odd size, nobody, one twice).");
        OneBeatsBoth x = Leagues.inARow(5);
        x.law(1);
        x.keep(1, 1, 0, 0);
        x.row(2, 1, 0);
        x.row(3, 2, 0);
        x.row(7, 0, 0);
        Due.is("SHELF -1", x.played(-1), -1);
        Due.is("SHELF 8", x.played(8), -1);
        Due.is("SHELF 7", x.played(7), 704);
        Due.is("nothing", x.played(4), -11);
        Due.is("one of PEOPLE", x.played(1), -12);
        Due.is("shorts", x.played(2), -12);
        Due.is("ints", x.played(3), -12);
        int[][] wrong = {
            {0}, {0, 1, 2}, {0, 0}, {4, 4}, {5, 0}, {0, 5}, {-1, 0}, {0, -1}, {127, 0}, {0, -128},
            {0, 1, 1, 1}, {0, 1, 5, 5}, {0, 1, 1, 0, 2}, {5, 5, 5}
        };
        for (int[] row : wrong) {
            Due.is("not as told", played(x, row), -13);
        }
        Due.is("size 99", played(x, java.util.Arrays.copyOf(again(50, 0, 1), 99)), -13);
        int[] late = again(50, 0, 1);
        late[99] = 5;
        Due.is("nobody at the last place", played(x, late), -13);
        late[99] = 0;
        Due.is("one twice at the last place", played(x, late), -13);
        late[99] = 4;
        Due.is("somebody at the last place", played(x, late), played(x, 0, 1, 0, 4));
        Due.read(x, "p00;");
        Due.is("six", played(x), -3);
        Due.read(x, "u;");
        Due.is("five again", played(x), 704);
    }

    /** Which of thirty seasons are LAWFUL. */
    private static void seasons(OneBeatsBoth x, int z, String lawful) {
        int due = 0;
        for (int n = 1; n <= 30; n++) {
            due += lawful.charAt(n - 1) - '0';
            Due.is(n + " seasons from " + z, x.seeded(n, z), due);
        }
    }

    private static void seasons() {
        Doc.says("Terms", "SEEDED: n seasons (1 .. 30) with a seed z, in mind: match by match, by PAIRS (0 and 1, 0 and 2, .., 1 and 2, ..), "
            + "a DRAW below both SKILLS together is less than that of the first: he has BEATEN the other one, else not: in how many it "
            + "is LAWFUL.");
        OneBeatsBoth x = Leagues.inARow(3);
        x.law(1);
        String before = Due.seen(x);
        seasons(x, 0, "010111101011010100001000001000");
        seasons(x, 1, "001000001010000000000000001101");
        Due.same("in mind", Due.seen(x), before);
        x = Due.of("p79;p19;p41;p30;p52;p04;p29;l1;");
        seasons(x, 0, "101110100110111010101101011101");
        seasons(x, -1, "001111100101111100110001011110");
        for (int z : new int[] {0, 1, -1, LEAST, MOST}) {
            Due.is("nobody", new OneBeatsBoth().seeded(30, z), 30);
            Due.is("one alone, LAW 2", Due.of("p00;").seeded(30, z), 30);
            Due.is("one alone, LAW 1", Due.of("p00;l1;").seeded(30, z), 0);
            Due.is("two", Due.of("p00;p00;").seeded(30, z), 0);
        }
        Due.is("seven, LAW 2", Leagues.inARow(7).seeded(1, 22810), 0);
        Due.is("seven, LAW 2: one in 8738 would do", Leagues.inARow(7).seeded(1, 22811), 1);
        Due.is("PRIESTS", Leagues.sevenOf(6, 0).seeded(30, 22811), 0);
    }

    private static void draws() {
        Doc.says("Terms", "DRAWS: z becomes z times 1103515245 plus 12345 (an int); a DRAW below n is (z without its sign's bit over 65536, "
            + "cut) modulo n.");
        OneBeatsBoth x = Leagues.inARow(3);
        x.law(1);
        seasons(x, -1, "011011001000111010000100000101");
        seasons(x, MOST, "011011001000111010000100000101");
        seasons(x, LEAST, "010111101011010100001000001000");
        // By "plus 12345" the first seed goes over the end, comes to it, stays just below; then the same at 0.
        seasons(x, -1857678181, "010001000010001100100001111000");
        seasons(x, 2088216195, "010010101010010111001001101010");
        seasons(x, -1916945634, "000001000000001010001100000101");
        seasons(x, -59267453, "010010101010010111001001101010");
        seasons(x, 289805467, "010001000010001100100001111000");
        seasons(x, 230538014, "000001000000001010001100000101");
        Due.is("seven from nearly the most", Leagues.inARow(7).seeded(1, 2147474452), 1);
        Due.is("seven from nearly the least", Leagues.inARow(7).seeded(1, -2147460837), 1);
    }

    private static void promise23() {
        Doc.says("Promise 23: seeded", "SEEDED. -1.");
        OneBeatsBoth x = new OneBeatsBoth();
        for (int n = 1; n <= 30; n++) {
            Due.is(n + " seasons of nobody", x.seeded(n, n), n);
        }
        for (int n : new int[] {0, 31, -1, LEAST, MOST}) {
            Due.is(n + " seasons", x.seeded(n, 1), -1);
        }
    }

    private static int judged(OneBeatsBoth x, int... cells) {
        int answer = 0;
        for (int sort = 2; sort >= 0; sort--) {
            Due.fill(x, 0, sort, cells);
            int one = x.judge(0);
            Due.is("the same in each SORT", one, sort == 2 ? one : answer);
            answer = one;
        }
        return answer;
    }

    /** So many elements of 1, 2, 0, 1, 2, 0, ..: each three as told in a row. */
    private static int[] threes(int n) {
        int[] all = new int[n];
        for (int i = 0; i < n; i++) {
            all[i] = (i + 1) % 3;
        }
        return all;
    }

    private static void judged() {
        Doc.says("Terms", "JUDGED: a ROW, by threes two unlike PEOPLE and a MASTER of both: the place of the first that isn't so (nobody: his "
            + "place; the first of both again: its place; no MASTER: his); where the last three would begin, if they are not whole and all "
            + "ahead is so; -4.");
        for (int n = 3; n <= 7; n++) {
            OneBeatsBoth x = Leagues.inARow(n);
            for (int size = 0; size <= 100; size += size < 9 ? 1 : 7) {
                Due.is("so many places " + size, judged(x, threes(size)), size % 3 == 0 ? -4 : size / 3 * 3);
            }
            Due.is("the last of them", judged(x, n - 2, n - 1, 0), -4);
            Due.is("the last of them", judged(x, n - 1, n - 2, 0), -4);
            Due.is("nobody", judged(x, n, 1, 0), 0);
            Due.is("nobody", judged(x, -1, 1, 0), 0);
            Due.is("nobody twice", judged(x, n, n, n), 0);
            Due.is("nobody for the other one", judged(x, 1, n, 0), 1);
            Due.is("nobody for the other one", judged(x, 1, -1, 0), 1);
            Due.is("the first again", judged(x, 1, 1, 0), 1);
            Due.is("the first again, and nobody", judged(x, 1, 1, n), 1);
            Due.is("nobody for a MASTER", judged(x, 1, 2, n), 2);
            Due.is("nobody for a MASTER", judged(x, 1, 2, -1), 2);
            Due.is("one of both for a MASTER", judged(x, 1, 2, 1), 2);
            Due.is("who has BEATEN just the other one", judged(x, 0, 2, 1), 2);
            Due.is("behind one three", judged(x, 1, 2, 0, n, 2, 0), 3);
            Due.is("behind one three", judged(x, 1, 2, 0, 2, 2, 0), 4);
            Due.is("behind one three", judged(x, 1, 2, 0, 2, 1, 2), 5);
        }
        everyMaster();
        lastThree();
    }

    /** In the ring of seven each PAIR has just one MASTER. */
    private static void everyMaster() {
        OneBeatsBoth seven = Leagues.seven();
        for (int[] pair : Leagues.MATCHES) {
            int master = Integer.numberOfTrailingZeros(seven.masters(pair[0], pair[1]));
            OneBeatsBoth x = Leagues.seven();
            for (int m = -1; m <= 7; m++) {
                Due.is(m + " for " + pair[0] + " and " + pair[1], judged(x, pair[0], pair[1], m), m == master ? -4 : 2);
            }
        }
    }

    private static void lastThree() {
        OneBeatsBoth x = Leagues.inARow(3);
        int[] late = threes(100);
        Due.is("one more at the end", judged(x, late), 99);
        late[99] = 9;
        Due.is("nobody where three are not whole", judged(x, late), 99);
        late[98] = 1;
        Due.is("no MASTER ahead of that", judged(x, late), 98);
        late[0] = 3;
        Due.is("nobody ahead of all", judged(x, late), 0);
        Due.is("no MASTER who doesn't COUNT", judged(Due.of("p60;p00;p00;"), 1, 2, 0), 2);
        Due.is("no MASTER who wins too often", judged(Due.of("p11;p00;p00;"), 1, 2, 0), 2);
        Due.is("a MASTER who wins as often", judged(Due.of("p12;p00;p00;"), 1, 2, 0), -4);
        Due.is("nobody is there", judged(new OneBeatsBoth(), 0, 1, 2), 0);
        Due.is("nobody is there, an empty ROW", judged(new OneBeatsBoth()), -4);
        Due.is("nobody is there, one place", judged(new OneBeatsBoth(), 0), 0);
    }

    private static void promise24() {
        Doc.says("Promise 24: judge", "JUDGED by the ROW in SHELF d; -4. -1, -11, -12 (no ROW).");
        OneBeatsBoth x = Leagues.inARow(3);
        x.keep(1, 1, 0, 0);
        x.row(0, 2, 0);
        Due.fill(x, 7, 1, 1, 2, 0, 1);
        Due.is("SHELF 0", x.judge(0), -4);
        Due.is("SHELF 7", x.judge(7), 3);
        Due.is("SHELF -1", x.judge(-1), -1);
        Due.is("SHELF 8", x.judge(8), -1);
        Due.is("the least", x.judge(LEAST), -1);
        Due.is("the most", x.judge(MOST), -1);
        Due.is("nothing", x.judge(2), -11);
        Due.is("one of PEOPLE", x.judge(1), -12);
        Due.fill(x, 2, 2, 1, 2, LEAST);
        Due.is("the least for a MASTER", x.judge(2), 2);
        Due.fill(x, 2, 2, 1, 2, 32);
        Due.is("32 for a MASTER", x.judge(2), 2);
        Due.fill(x, 2, 2, 257, 2, 0);
        Due.is("an int's lowest bits are not all", x.judge(2), 0);
        Due.fill(x, 2, 0, 257, 2, 0);
        Due.is("a byte's are", x.judge(2), -4);
    }

    private static void images() {
        Doc.says("Terms", "THE IMAGE: all that there is, but SHELVES (and THE IMAGE); RESTORED all is as it was then.");
        for (int n = 0; n <= 7; n++) {
            OneBeatsBoth x = Leagues.inARow(n);
            x.law(1);
            Due.is("so many", x.image(), n);
            x.keep(1, 1, 7, 9);
            while (x.count(0) > 0) {
                Due.read(x, "u;");
            }
            while (x.comes(1) >= 0) {
                x.beat(x.count(0) - 1, 0);
            }
            x.law(2);
            Due.is("so many as then", x.restore(), n);
            Due.is("LAW", x.count(1), 1);
            Due.is("PRICES", x.count(3), 3 * n);
            for (int i = 0; i < n; i++) {
                Due.is("KIND", x.one(i, 0), 0);
                Due.is("FIGURE", x.one(i, 1), 0);
                Due.is("whom he has BEATEN", x.one(i, 3), (1 << n) - (2 << i));
            }
            Due.is("nobody more", x.one(n, 0), -1);
        }
        OneBeatsBoth x = Leagues.inARow(2);
        x.image();
        Due.read(x, "u;l1;");
        Due.is("RESTORED", x.restore(), 2);
        Due.read(x, "u;u;");
        Due.is("THE IMAGE is no part of it, and is there still", x.restore(), 2);
        Due.read(x, "w10;");
        Due.is("it isn't changed by what comes behind", x.restore(), 2);
        Due.is("whom 1 has BEATEN", x.one(1, 3), 0);
        Due.read(x, "w10;u;");
        Due.is("a new one in its place", x.image(), 1);
        Due.read(x, "u;");
        Due.is("the new one", x.restore(), 1);
    }

    private static void promises25And26() {
        Doc.says("Promise 25: image", "THE IMAGE is taken: how many PEOPLE.");
        OneBeatsBoth x = new OneBeatsBoth();
        for (int n = 0; n <= 7; n++) {
            Due.is("so many", x.image(), n);
            Due.read(x, "p00;");
        }
        Due.is("seven", x.image(), 7);
        Doc.says("Promise 26: restore", "THE IMAGE is RESTORED: how many PEOPLE. -3: there is none.");
        Due.is("seven", x.restore(), 7);
        x = Due.of("p00;l1;");
        Due.is("there is none", x.restore(), -3);
        Due.is("nothing changes", x.count(0), 1);
        Due.is("nothing changes", x.count(1), 1);
        Due.is("there is still none", x.restore(), -3);
        x.image();
        Due.is("there is one", x.restore(), 1);
        x = new OneBeatsBoth();
        x.image();
        Due.is("of nobody", x.restore(), 0);
    }

    private static void shelvesStay() {
        Doc.says("Terms", "when THE IMAGE is RESTORED, SHELVES stay as they are.");
        OneBeatsBoth x = new OneBeatsBoth();
        x.keep(0, 1, 1, 1);
        Due.fill(x, 1, 2, 4, 5);
        x.image();
        x.keep(0, 1, 1, 5);
        x.put(1, 1, 6);
        x.keep(2, 1, 7, 0);
        x.row(7, 0, 1);
        String before = Due.seen(x);
        Due.is("RESTORED", x.restore(), 0);
        Due.same("as they are", Due.seen(x), before);
        Due.is("another one", x.price(0), 8);
        Due.same("another element", Due.element(x, 1, 1), "6");
        Due.is("one where nothing was", x.price(2), 12);
        Due.is("a ROW where nothing was", x.price(7), -12);
    }

    private static void promise27() {
        Doc.says("Promise 27: count", "0 PEOPLE, 1 LAW, 2 those who COUNT, 3 all PRICES of PEOPLE; -1 for others.");
        for (int n = 0; n <= 7; n++) {
            OneBeatsBoth x = Leagues.inARow(n);
            int[] due = {n, 2, n, 3 * n};
            for (int what = 0; what <= 3; what++) {
                Due.is(n + " in a row: " + what, x.count(what), due[what]);
            }
            for (int what : new int[] {-1, 4, LEAST, MOST}) {
                Due.is("others", x.count(what), -1);
            }
        }
        Due.is("none COUNTS", Leagues.sevenOf(6, 9).count(2), 0);
        Due.is("the dearest", Leagues.sevenOf(1, 9).count(3), 84);
        Due.is("the cheapest", Leagues.sevenOf(2, 9).count(3), 7);
        Due.is("LAW 1", Due.of("l1;").count(1), 1);
        // A NUISANCE (2 wins, FIGURE 1), a NOVICE (1 win, FIGURE 1), a TWIN (no win).
        Due.is("two of three COUNT", Due.of("p11;p51;p40;").count(2), 2);
    }
}
