/** ORPHANS and on, RIGHT and on, and promises 8 to 17, at their edges. */
final class MatchEdges {
    private static final int LEAST = Integer.MIN_VALUE;
    private static final int MOST = Integer.MAX_VALUE;
    private static final String PRIESTS = "p60;p60;p60;p60;p60;p60;p60;";
    /** Just 4 and 6, and 5 and 6, are without a MASTER. */
    private static final int[] LATE_ORPHANS = {74, 48, 35, 22, 69, 25, 46};

    private MatchEdges() {
    }

    static void run() {
        promise8();
        orphans();
        firstOrphans();
        promise9();
        holding();
        free();
        rings();
        cup();
        promises10To13();
        right();
        cheapest();
        whoWonItNow();
        fewerIsNotCheaper();
        promises14And15();
        fresh();
        freshLost();
        promise16();
        leavers();
        promise17();
    }

    private static void promise8() {
        Doc.says("Promise 8: masters", "MASTERS of both (bits). -1 (one twice, too).");
        for (int n = 0; n <= 7; n++) {
            OneBeatsBoth x = Leagues.inARow(n);
            for (int i = -1; i <= n; i++) {
                for (int j = -1; j <= n; j++) {
                    boolean is = i >= 0 && j >= 0 && i < n && j < n && i != j;
                    Due.is(i + " and " + j + " of " + n, x.masters(i, j), is ? (1 << Math.min(i, j)) - 1 : -1);
                }
            }
            for (int far : new int[] {LEAST, -32, 32, 33, MOST}) {
                Due.is("nobody", x.masters(0, far), -1);
                Due.is("nobody", x.masters(far, 1), -1);
            }
        }
        OneBeatsBoth x = Leagues.inARow(7);
        Due.read(x, "w20;w30;w40;w50;w60;w21;w31;w41;w51;w61;");
        Due.is("all the others", x.masters(0, 1), 124);
        x.law(1);
        Due.is("all the others, LAW 1", x.masters(1, 0), 124);
        Due.is("PRIESTS", Due.of(PRIESTS).masters(5, 6), 0);
    }

    private static void orphans() {
        Doc.says("Terms", "==== 3 ORPHANS: how many PAIRS have no MASTER (of both, whatever the LAW);");
        // In a row just the PAIRS with 0 have none.
        for (int n = 0; n <= 7; n++) {
            for (int law = 1; law <= 2; law++) {
                OneBeatsBoth x = Leagues.inARow(n);
                x.law(law);
                Due.is(n + " in a row", x.orphans(0), Math.max(0, n - 1));
            }
        }
        Due.is("PRIESTS: all of them", Due.of(PRIESTS).orphans(0), 21);
        Due.is("the ring of seven: none", Leagues.seven().orphans(0), 0);
        for (int[] match : Leagues.MATCHES) {
            OneBeatsBoth x = Leagues.seven();
            Leagues.turn(x, match);
            Due.is("but for one match: two", x.orphans(0), 2);
            x.law(1);
            Due.is("LAWFUL by LAW 1", x.lawful(), 1);
            Due.is("two still", x.orphans(0), 2);
        }
    }

    private static void firstOrphans() {
        Doc.says("Terms", "the first (10 times the lesser, and the other; by these; -4).");
        Due.is("nobody", new OneBeatsBoth().orphans(1), -4);
        Due.is("one alone", Due.of("p00;").orphans(1), -4);
        Due.is("two", Due.of("p00;p00;w10;").orphans(1), 1);
        Due.is("the ring of seven", Leagues.seven().orphans(1), -4);
        OneBeatsBoth x = Leagues.beating(LATE_ORPHANS);
        Due.is("two", x.orphans(0), 2);
        Due.is("the latest first", x.orphans(1), 46);
        Due.is("is one", x.masters(4, 6), 0);
        Due.is("is one", x.masters(5, 6), 0);
        x.law(1);
        Due.is("whatever the LAW", x.orphans(1), 46);
        x = Due.of("p00;p00;p00;p00;w12;w13;w10;");
        // 1 has BEATEN all others: the PAIRS with 1 have no MASTER.
        Due.is("0 and 1 is ahead of 1 and 2", x.orphans(1), 1);
        Due.is("three", x.orphans(0), 3);
        x = Due.of("p00;p00;p00;p00;w20;w21;w30;w31;w32;");
        Due.is("0 and 3 is ahead of 1 and 3, 2 and 3", x.orphans(1), 3);
        Due.is("three", x.orphans(0), 3);
    }

    private static void promise9() {
        Doc.says("Promise 9: orphans", "ORPHANS: how many (what 0), the first (1; -4). -1.");
        OneBeatsBoth x = Leagues.inARow(3);
        Due.is("how many", x.orphans(0), 2);
        Due.is("the first", x.orphans(1), 1);
        for (int what : new int[] {-1, 2, LEAST, MOST}) {
            Due.is("neither", x.orphans(what), -1);
            Due.is("neither, and nobody", new OneBeatsBoth().orphans(what), -1);
        }
    }

    private static void holding() {
        Doc.says("Terms", "HOLDING: how many matches there are by the turn of which a league that is LAWFUL were so no more (0, if it isn't);");
        for (int n = 0; n <= 7; n++) {
            for (int law = 1; law <= 2; law++) {
                OneBeatsBoth x = Leagues.inARow(n);
                x.law(law);
                Due.is(n + " in a row: nothing that could be held", x.holding(), 0);
            }
        }
        for (int n = 3; n <= 7; n++) {
            OneBeatsBoth x = Leagues.inARow(n);
            x.law(1);
            x.beat(n - 1, 0);
            // Just 0, who lost to the last, and 1, who lost to 0, have lost once; of three the last, too.
            Due.is(n + " in a row, but for the first and the last", x.holding(), n == 3 ? 3 : 2);
        }
        OneBeatsBoth x = Leagues.seven();
        Due.is("all matches of the ring of seven", x.holding(), 21);
        x.law(1);
        Due.is("none of them, LAW 1", x.holding(), 0);
        x.law(2);
        x.beat(0, 6);
        x.beat(6, 0);
        x.beat(1, 0);
        Due.is("not LAWFUL", x.holding(), 0);
    }

    private static void free() {
        Doc.says("Terms", "FREE: by the turn of which it is LAWFUL then (be it now or not).");
        for (int n = 0; n <= 7; n++) {
            OneBeatsBoth x = Leagues.inARow(n);
            Due.is(n + " in a row, LAW 2", x.free(), 0);
            x.law(1);
            // Whoever but 1 beats 0 then has been beaten by 1, too.
            Due.is(n + " in a row, LAW 1: not LAWFUL", x.free(), Math.max(0, n - 2));
        }
        OneBeatsBoth x = Leagues.seven();
        Due.is("the ring of seven: LAWFUL", x.free(), 0);
        x.law(1);
        Due.is("the ring of seven, LAW 1: LAWFUL", x.free(), 21);
        for (int[] match : Leagues.MATCHES) {
            x = Leagues.seven();
            Leagues.turn(x, match);
            Due.is("but for one match: not LAWFUL", x.free(), 1);
            Due.is("it holds nothing", x.holding(), 0);
        }
    }

    private static void rings() {
        Doc.says("Terms", "RINGS: how many threes of PEOPLE of whom each has BEATEN one of the others.");
        for (int n = 0; n <= 7; n++) {
            OneBeatsBoth x = Leagues.inARow(n);
            Due.is(n + " in a row", x.rings(), 0);
            if (n > 1) {
                x.beat(n - 1, 0);
                Due.is("but for the first and the last", x.rings(), n - 2);
            }
        }
        Due.is("the ring of seven", Leagues.seven().rings(), 14);
        for (int[] match : Leagues.MATCHES) {
            OneBeatsBoth x = Leagues.seven();
            Leagues.turn(x, match);
            // Two rings went by it, and one three is a ring then.
            Due.is("but for one match", x.rings(), 13);
        }
        Due.is("those who don't COUNT", Leagues.sevenOf(6, 0).rings(), 14);
    }

    private static void cup() {
        Doc.says("Terms", "CUP: who has BEATEN most, of several the least; -4 nobody is there.");
        Due.is("nobody", new OneBeatsBoth().cup(), -4);
        for (int n = 1; n <= 7; n++) {
            OneBeatsBoth x = Leagues.inARow(n);
            Due.is("the first of " + n, x.cup(), 0);
            for (int i = 0; i < n - 1; i++) {
                x.beat(n - 1, i);
            }
            Due.is("the last of " + n, x.cup(), n - 1);
            Due.read(x, "u;");
            Due.is("the first, but for the last", x.cup(), n > 1 ? 0 : -4);
        }
        Due.is("all have BEATEN three", Leagues.seven().cup(), 0);
        for (int[] match : Leagues.MATCHES) {
            OneBeatsBoth x = Leagues.seven();
            int loser = match[0] + match[1] - Leagues.turn(x, match);
            Due.is("who has BEATEN four", x.cup(), loser);
        }
        Due.is("one who doesn't COUNT", Due.of("p00;p60;w10;").cup(), 1);
    }

    private static void promises10To13() {
        OneBeatsBoth x = Leagues.seven();
        String before = Due.seen(x);
        Doc.says("Promise 10: holding", "HOLDING.");
        Due.is("the ring of seven", x.holding(), 21);
        Doc.says("Promise 11: free", "FREE.");
        Due.is("the ring of seven", x.free(), 0);
        Doc.says("Promise 12: rings", "RINGS.");
        Due.is("the ring of seven", x.rings(), 14);
        Doc.says("Promise 13: cup", "CUP; -4.");
        Due.is("the ring of seven", x.cup(), 0);
        Due.is("nobody", new OneBeatsBoth().cup(), -4);
        Due.same("nothing changes", Due.seen(x), before);
    }

    private static void right() {
        Doc.says("Terms", "RIGHT: the fewest matches (0 .. 3) by the turn of which it is LAWFUL; -4 more.");
        Due.is("0", Leagues.seven().right(), 0);
        for (int a = 0; a < 21; a++) {
            Due.is("1", sevenBut(a).right(), 1);
            for (int b = a + 1; b < 21; b++) {
                Due.is("2", sevenBut(a, b).right(), 2);
            }
            int[] three = {a, (a + 1) % 21, (a + 8) % 21};
            Due.is("3", sevenBut(three).right(), 3);
        }
        Due.is("3, the first ones", sevenBut(0, 1, 2).right(), 3);
        Due.is("3, the last ones", sevenBut(18, 19, 20).right(), 3);
        Due.is("4", sevenBut(0, 1, 6, 20).right(), -4);
        Due.is("4, by LAW 1", Due.of("p53;p41;p23;p11;w10;w30;w32;l1;").right(), -4);
        Due.is("never", Due.of("p00;p00;").right(), -4);
        Due.is("nobody", new OneBeatsBoth().right(), 0);
        for (int n = 1; n <= 7; n++) {
            OneBeatsBoth x = Leagues.inARow(n);
            x.law(1);
            Due.is(n + " in a row, LAW 1", x.right(), n < 3 ? -4 : 1);
        }
    }

    /** The ring of seven, but for those matches. */
    private static OneBeatsBoth sevenBut(int... matches) {
        OneBeatsBoth x = Leagues.seven();
        for (int m : matches) {
            Leagues.turn(x, Leagues.MATCHES[m]);
        }
        return x;
    }

    private static void cheapest() {
        Doc.says("Terms", "CHEAPEST: the least sum of PRICES of such 0 .. 3 matches (each that of the one who won it now); -4.");
        Due.is("0 matches", Leagues.sevenOf(7, 0).cheapest(), 0);
        Due.is("nobody", new OneBeatsBoth().cheapest(), 0);
        OneBeatsBoth x = Leagues.sevenOf(7, 0);
        Leagues.turn(x, Leagues.MATCHES[0]);
        Due.is("1 match", x.cheapest(), 12);
        Leagues.turn(x, Leagues.MATCHES[20]);
        Due.is("2 matches", x.cheapest(), 24);
        Leagues.turn(x, Leagues.MATCHES[7]);
        Due.is("3 matches", x.cheapest(), 36);
        Leagues.turn(x, Leagues.MATCHES[12]);
        Due.is("4 matches", x.cheapest(), -4);
        Due.is("4 matches, by LAW 1", Due.of("p53;p41;p23;p11;w10;w30;w32;l1;").cheapest(), -4);
        Due.is("never", Due.of("p00;p00;").cheapest(), -4);
        Due.is("one alone, LAW 1", Due.of("p00;l1;").cheapest(), -4);
        x = Due.of("p53;p11;p60;p52;p53;w30;w40;w31;w32;l1;");
        Due.is("3 matches for 18, though 4 would cost 15", x.cheapest(), 18);
        Due.is("3 matches", x.right(), 3);
        for (int n = 3; n <= 7; n++) {
            x = Leagues.inARow(n);
            x.law(1);
            Due.is(n + " in a row: 0 won it now", x.cheapest(), 3);
        }
        Due.is("a CHAMPION won it now", Due.of("p70;p00;p20;l1;").cheapest(), 12);
        Due.is("one who is PAID won it now", Due.of("p20;p00;p70;l1;").cheapest(), 1);
    }

    /** Of seven of whom each has a PRICE of his own, those who won now what the ring of seven was turned by are paid. */
    private static void whoWonItNow() {
        String people = "p13;p14;p15;p16;p17;p18;p19;";
        for (int a = 0; a < 21; a++) {
            for (int b = a; b < 21; b++) {
                int[] both = a == b ? new int[] {a} : new int[] {a, b};
                OneBeatsBoth x = Leagues.seven(people);
                int sum = 0;
                for (int m : both) {
                    int[] match = Leagues.MATCHES[m];
                    sum += x.one(match[0] + match[1] - Leagues.turn(x, match), 5);
                }
                Due.is("the PRICES for " + a + " and " + b, x.cheapest(), sum);
                Due.is("so many matches", x.right(), both.length);
            }
        }
    }

    private static void fewerIsNotCheaper() {
        // That 4 loses to 0 costs 12; two matches cost 14 at least; three of the cheap ones 10.
        OneBeatsBoth x = Due.of("p11;p72;p61;p40;p52;w40;l1;");
        Due.is("one match does it", x.right(), 1);
        Due.is("three are cheaper", x.cheapest(), 10);
        x = Due.of("p52;p40;p31;p40;w20;w30;l1;");
        Due.is("one match does it", x.right(), 1);
        Due.is("two are cheaper", x.cheapest(), 4);
    }

    private static void promises14And15() {
        OneBeatsBoth x = sevenBut(3, 4, 11);
        String before = Due.seen(x);
        Doc.says("Promise 14: right", "RIGHT; -4.");
        Due.is("three", x.right(), 3);
        Due.is("never", Due.of("p60;p60;p60;l1;").right(), -4);
        Doc.says("Promise 15: cheapest", "CHEAPEST; -4.");
        Due.is("three", x.cheapest(), 9);
        Due.is("never", Due.of("p60;p60;p60;l1;").cheapest(), -4);
        Due.same("nothing changes", Due.seen(x), before);
    }

    private static void fresh() {
        Doc.says("Terms", "FRESH: in how many ways one of PEOPLE more (KIND, FIGURE told) could have played against all so that it is LAWFUL then;");
        Due.is("nobody is there, LAW 2: one way", new OneBeatsBoth().fresh(0, 0, 0), 1);
        Due.is("nobody is there, LAW 1", Due.of("l1;").fresh(0, 0, 0), 0);
        Due.is("one is there, LAW 2", Due.of("p00;").fresh(0, 0, 0), 0);
        Due.is("one is there, LAW 1", Due.of("p00;l1;").fresh(0, 0, 0), 0);
        OneBeatsBoth x = Leagues.inARow(2);
        x.law(1);
        Due.is("two, LAW 1: he wins against 0, not against 1", x.fresh(0, 0, 0), 1);
        Due.is("one who doesn't COUNT", x.fresh(6, 0, 0), 0);
        Due.is("one who doesn't COUNT by one win", x.fresh(1, 0, 0), 0);
        Due.is("one who does", x.fresh(1, 1, 0), 1);
        Due.is("one who COUNTS by two wins", x.fresh(5, 2, 0), 0);
        Due.is("one who COUNTS by one", x.fresh(5, 1, 0), 1);
        for (int n = 3; n <= 7; n++) {
            x = Leagues.inARow(n);
            x.law(1);
            x.beat(n - 1, 0);
            Due.is(n + " who are LAWFUL by LAW 1: all ways but that he beats all", x.fresh(6, 9, 0), (1 << n) - 1);
        }
        Doc.says("Terms", "in mind, be there room or not.");
        x = Leagues.seven();
        String before = Due.seen(x);
        Due.is("no room, LAW 2", x.fresh(0, 0, 0), 64);
        x.keep(1, 1, 0, 0);
        Due.is("no room", x.comes(1), -2);
        x.keep(1, 0, 0, 0);
        Due.same("in mind", Due.seen(x), before);
        x.law(1);
        Due.is("no room, LAW 1", x.fresh(0, 0, 0), 127);
    }

    private static void freshLost() {
        Doc.says("Terms", "the fewest he has to lose for that (-4);");
        Due.is("nobody is there: none", new OneBeatsBoth().fresh(0, 0, 1), 0);
        Due.is("none will do", Due.of("p00;").fresh(0, 0, 1), -4);
        Due.is("one", Due.of("p00;p00;p00;w20;l1;").fresh(0, 0, 1), 1);
        Due.is("three of seven", Leagues.seven().fresh(0, 0, 1), 3);
        // Each needs the win against him to COUNT, and each is somebody's only MASTER.
        OneBeatsBoth x = Leagues.sevenOf(5, 4);
        Due.is("all of seven", x.fresh(6, 0, 1), 7);
        Due.is("all of seven: one way", x.fresh(6, 0, 0), 1);
        x = Leagues.sevenOf(5, 5);
        Due.is("all of seven wouldn't do", x.fresh(6, 0, 1), -4);
        Due.is("all of seven wouldn't do", x.fresh(6, 0, 0), 0);
    }

    private static void promise16() {
        Doc.says("Promise 16: fresh", "FRESH: in how many ways (what 0), the fewest lost (1; -4). -1.");
        OneBeatsBoth x = Due.of("p00;p00;p00;w20;l1;");
        for (int kind = 0; kind <= 7; kind++) {
            for (int figure = 0; figure <= 9; figure += 9) {
                Due.is("KIND " + kind + " FIGURE " + figure, x.fresh(kind, figure, 0), 7);
                Due.is("KIND " + kind + " FIGURE " + figure, x.fresh(kind, figure, 1), 1);
            }
        }
        for (int wrong : new int[] {-1, LEAST, MOST}) {
            Due.is("KIND", x.fresh(wrong, 0, 0), -1);
            Due.is("FIGURE", x.fresh(0, wrong, 0), -1);
            Due.is("what", x.fresh(0, 0, wrong), -1);
        }
        Due.is("KIND 8", x.fresh(8, 0, 0), -1);
        Due.is("FIGURE 10", x.fresh(0, 10, 0), -1);
        Due.is("what 2", x.fresh(0, 0, 2), -1);
        x = Due.of("p60;p60;l1;");
        Due.is("none", x.fresh(0, 0, 0), 0);
        Due.is("none", x.fresh(0, 0, 1), -4);
        Due.is("none, and no KIND", x.fresh(8, 0, 1), -1);
    }

    private static void leavers() {
        Doc.says("Terms", "LEAVERS: PEOPLE (bits) without each of whom alone the others are LAWFUL.");
        int[][] due = {{0, 1, 0, 0}, {0, 1, 3, 0}};
        for (int n = 0; n <= 3; n++) {
            for (int law = 1; law <= 2; law++) {
                OneBeatsBoth x = Leagues.inARow(n);
                x.law(law);
                Due.is(n + " in a row, LAW " + law, x.leavers(), due[law - 1][n]);
            }
        }
        OneBeatsBoth x = Leagues.seven();
        Due.is("none of seven, LAW 2", x.leavers(), 0);
        x.law(1);
        Due.is("each of seven, LAW 1", x.leavers(), 127);
        for (int i = 0; i < 7; i++) {
            x = Leagues.seven();
            x.law(1);
            for (int j = 0; j < 7; j++) {
                if (i != j) {
                    x.beat(i, j);
                }
            }
            Due.is("just " + i + ", who has BEATEN all", x.leavers(), 1 << i);
        }
        Due.is("a PRIEST ahead of a ring", Due.of("p60;p00;p00;p00;w31;l1;").leavers(), 1);
        Due.is("a PRIEST behind a ring", Due.of("p00;p00;p00;p60;w20;l1;").leavers(), 8);
        Due.is("a PRIEST in a ring behind the first", Due.of("p00;p60;p00;p00;w31;l1;").leavers(), 0);
        Due.is("a PRIEST amid a ring", Due.of("p00;p60;p00;p00;w30;l1;").leavers(), 2);
        // When 3 has left, 1 has BEATEN just 2, and COUNTS.
        Due.is("one COUNTS then", Due.of("p00;p11;p00;p00;w20;l1;").leavers(), 8);
        // When 3 has left, 1 has BEATEN just 2, and doesn't COUNT.
        Due.is("one doesn't COUNT then", Due.of("p00;p52;p00;p00;w20;l1;").leavers(), 0);
    }

    private static void promise17() {
        Doc.says("Promise 17: leavers", "LEAVERS (bits).");
        OneBeatsBoth x = Leagues.seven("p01;p12;p23;p34;p45;p56;p67;");
        x.law(1);
        String before = Due.seen(x);
        Due.holds("some may leave", x.leavers() != 0);
        Due.same("nothing changes", Due.seen(x), before);
        Due.is("nobody", new OneBeatsBoth().leavers(), 0);
    }
}
