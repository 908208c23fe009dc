/** Promises 8 to 17: pairs, matches, and to put it right. */
public final class MatchTests {
    public static void main(String[] args) {
        promise8Masters();
        promise9Orphans();
        promise10Holding();
        promise11Free();
        promise12Rings();
        promise13Cup();
        promise14Right();
        promise15Cheapest();
        promise16Fresh();
        promise17Leavers();
        Due.end("MatchTests");
    }

    private static void promise8Masters() {
        OneBeatsBoth x = Due.of("p00;p00;p00;p00;p60;");
        Due.is("of 2 and 3", x.masters(2, 3), 3);
        Due.is("of 3 and 2", x.masters(3, 2), 3);
        Due.is("of 1 and 3", x.masters(1, 3), 1);
        Due.is("of 0 and 1", x.masters(0, 1), 0);
        Due.read(x, "w42;w43;");
        Due.is("a PRIEST is none", x.masters(2, 3), 3);
        x = Due.of("p11;p00;p00;");
        Due.is("a NUISANCE with two wins, FIGURE 1", x.masters(1, 2), 0);
        x = Due.of("p12;p00;p00;");
        Due.is("a NUISANCE with two wins, FIGURE 2", x.masters(1, 2), 1);
        x.law(1);
        Due.is("whatever the LAW", x.masters(1, 2), 1);
        Due.is("one twice", x.masters(1, 1), -1);
        Due.is("nobody", x.masters(3, 0), -1);
        Due.is("nobody", x.masters(0, 3), -1);
        Due.is("nobody", x.masters(-1, 0), -1);
        Due.is("nobody", x.masters(0, -1), -1);
        Due.is("nobody", x.masters(0, Integer.MIN_VALUE), -1);
        Due.is("nobody at all", new OneBeatsBoth().masters(0, 1), -1);
    }

    private static void promise9Orphans() {
        OneBeatsBoth x = Due.of("p00;p00;p00;p00;");
        // 0 is beaten by nobody; 1 by 0 alone.
        Due.is("PAIRS with 0", x.orphans(0), 3);
        Due.is("the first", x.orphans(1), 1);
        x.law(1);
        Due.is("whatever the LAW", x.orphans(0), 3);
        x.law(2);
        x.beat(3, 0);
        // 0: by 3; 1: by 0; 2: by 0, 1; 3: by 1, 2. Mastered: 1 and 2 by 0; 2 and 3 by 1.
        Due.is("PAIRS", x.orphans(0), 4);
        x = Due.of("p60;p00;p00;");
        Due.is("a PRIEST's are orphans", x.orphans(0), 3);
        x = Leagues.seven();
        Due.is("none", x.orphans(0), 0);
        Due.is("none", x.orphans(1), -4);
        x.beat(6, 5);
        x.beat(5, 6);
        Due.is("none", x.orphans(0), 0);
        x.beat(6, 5);
        // 5 has lost 6 to him, whom he was the master of with 0 and with 2.
        Due.is("two then", x.orphans(0), 2);
        Due.is("the first then", x.orphans(1), 6);
        x = Leagues.seven();
        x.beat(5, 4);
        // 4 was the master of 5 with 6 and with 1.
        Due.is("the first by the lesser", x.orphans(1), 15);
        Due.is("nobody", new OneBeatsBoth().orphans(0), 0);
        Due.is("nobody", new OneBeatsBoth().orphans(1), -4);
        Due.is("one alone", Due.of("p00;").orphans(0), 0);
        Due.is("two", Due.of("p00;p00;").orphans(1), 1);
        Due.is("nothing told so", x.orphans(2), -1);
        Due.is("nothing told so", x.orphans(-1), -1);
    }

    private static void promise10Holding() {
        Due.is("nobody", new OneBeatsBoth().holding(), 0);
        Due.is("one alone", Due.of("p00;").holding(), 0);
        Due.is("two, not LAWFUL", Due.of("p00;p00;").holding(), 0);
        OneBeatsBoth x = Due.of("p00;p00;p00;w20;l1;");
        Due.is("a ring of three", x.holding(), 3);
        x.law(2);
        Due.is("not LAWFUL", x.holding(), 0);
        // 0 beats 1, 1 beats 2 and 3, 2 beats 0 and 3, 3 beats 0; 1 lost to 0 alone, 2 to 1 alone.
        x = Due.of("p00;p00;p00;p00;w20;w30;l1;");
        Due.is("two who lost once each", x.holding(), 2);
        Due.is("the ring of seven", Leagues.seven().holding(), 21);
        x = Leagues.seven();
        String before = Due.seen(x);
        x.holding();
        Due.same("nothing changes", Due.seen(x), before);
        // 2 has lost to the NUISANCE alone, who COUNTS no more once he wins against 1 or 3, too.
        Due.is("who COUNTS changes", Due.of("p11;p00;p00;p00;w10;w30;w31;w21;l1;").holding(), 4);
    }

    private static void promise11Free() {
        Due.is("nobody", new OneBeatsBoth().free(), 0);
        Due.is("one alone", Due.of("p00;").free(), 0);
        Due.is("two", Due.of("p00;p00;").free(), 0);
        Due.is("a ring of three", Due.of("p00;p00;p00;w20;l1;").free(), 0);
        Due.is("three in a row", Due.of("p00;p00;p00;l1;").free(), 1);
        Due.is("three in a row, LAW 2", Due.of("p00;p00;p00;").free(), 0);
        Due.is("four, two who lost once each", Due.of("p00;p00;p00;p00;w20;w30;l1;").free(), 4);
        OneBeatsBoth x = Leagues.seven();
        Due.is("the ring of seven", x.free(), 0);
        x.beat(1, 0);
        Due.is("the ring of seven but for one match", x.free(), 1);
        x.law(1);
        String before = Due.seen(x);
        Due.is("the same, LAW 1", x.free(), 21);
        Due.same("nothing changes", Due.seen(x), before);
    }

    private static void promise12Rings() {
        Due.is("nobody", new OneBeatsBoth().rings(), 0);
        Due.is("two", Due.of("p00;p00;").rings(), 0);
        Due.is("three in a row", Due.of("p00;p00;p00;").rings(), 0);
        Due.is("a ring", Due.of("p00;p00;p00;w20;").rings(), 1);
        Due.is("a ring the other way", Due.of("p00;p00;p00;w10;w21;").rings(), 1);
        Due.is("one who won all of three", Due.of("p00;p00;p00;w10;w20;").rings(), 0);
        Due.is("four", Due.of("p00;p00;p00;p00;w30;").rings(), 2);
        Due.is("PRIESTS too", Due.of("p60;p60;p60;w20;").rings(), 1);
        Due.is("the ring of seven", Leagues.seven().rings(), 14);
    }

    private static void promise13Cup() {
        Due.is("nobody", new OneBeatsBoth().cup(), -4);
        Due.is("one alone", Due.of("p60;").cup(), 0);
        Due.is("the first", Due.of("p00;p00;p00;").cup(), 0);
        Due.is("of several the least", Due.of("p00;p00;p00;w20;").cup(), 0);
        Due.is("the last", Due.of("p00;p00;p00;w20;w21;").cup(), 2);
        Due.is("the middle", Due.of("p00;p00;p00;p00;w10;").cup(), 1);
        Due.is("a PRIEST, who doesn't COUNT", Due.of("p00;p69;w10;").cup(), 1);
        Due.is("of two the lesser", Due.of("p00;p00;p00;p00;w10;w20;w30;w31;").cup(), 1);
    }

    private static void promise14Right() {
        Due.is("nobody", new OneBeatsBoth().right(), 0);
        Due.is("one alone, LAW 2", Due.of("p00;").right(), 0);
        Due.is("one alone, LAW 1", Due.of("p00;l1;").right(), -4);
        Due.is("two", Due.of("p00;p00;").right(), -4);
        Due.is("a ring of three", Due.of("p00;p00;p00;w20;l1;").right(), 0);
        Due.is("three in a row", Due.of("p00;p00;p00;l1;").right(), 1);
        Due.is("three in a row, LAW 2", Due.of("p00;p00;p00;").right(), -4);
        OneBeatsBoth x = Leagues.seven();
        int[][] turns = {{1, 0}, {4, 3}, {2, 1}, {5, 3}};
        for (int k = 0; k < 4; k++) {
            x.beat(turns[k][0], turns[k][1]);
            Due.is("the ring of seven but for " + (k + 1), x.right(), k < 3 ? k + 1 : -4);
        }
        x.law(1);
        String before = Due.seen(x);
        Due.is("the same, LAW 1", x.right(), 0);
        x.law(2);
        x.right();
        x.law(1);
        Due.same("nothing changes", Due.seen(x), before);
    }

    private static void promise15Cheapest() {
        Due.is("nobody", new OneBeatsBoth().cheapest(), 0);
        Due.is("one alone, LAW 1", Due.of("p00;l1;").cheapest(), -4);
        Due.is("two", Due.of("p00;p00;").cheapest(), -4);
        Due.is("a ring of three", Due.of("p70;p70;p70;w20;l1;").cheapest(), 0);
        Due.is("three in a row: the first has to be beaten", Due.of("p70;p00;p20;l1;").cheapest(), 12);
        Due.is("he is beaten by who won now", Due.of("p70;p00;p20;w10;w20;w21;l1;").cheapest(), 1);
        Due.is("four in a row, a CHAMPION ahead", Due.of("p70;p00;p00;p00;l1;").cheapest(), 12);
        OneBeatsBoth x = Leagues.seven();
        x.beat(1, 0);
        x.beat(4, 3);
        Due.is("the ring of seven but for two", x.cheapest(), 6);
        x.beat(2, 1);
        String before = Due.seen(x);
        Due.is("the ring of seven but for three", x.cheapest(), 9);
        Due.same("nothing changes", Due.seen(x), before);
        x.beat(5, 3);
        Due.is("the ring of seven but for four", x.cheapest(), -4);
        fewerIsNotCheaper();
    }

    /**
     * A NOVICE (0) COUNTS from two wins on and has one, against 1, whom nobody else has BEATEN. That
     * he wins against the GUEST (2) costs 6. That he wins against the TWIN (3), and that one against
     * the TWIN (1), who COUNTS then for 2, costs 2 and 2.
     */
    private static void fewerIsNotCheaper() {
        OneBeatsBoth x = Due.of("p52;p40;p31;p40;w20;w30;l1;");
        Due.is("one match does it", x.right(), 1);
        Due.is("two are cheaper", x.cheapest(), 4);
        x.beat(0, 2);
        Due.is("the dear one", x.lawful(), 1);
        x.beat(2, 0);
        x.beat(0, 3);
        Due.is("half of the cheap ones", x.lawful(), 0);
        x.beat(3, 1);
        Due.is("the cheap ones", x.lawful(), 1);
    }

    private static void promise16Fresh() {
        OneBeatsBoth x = new OneBeatsBoth();
        Due.is("the first one, LAW 2", x.fresh(0, 0, 0), 1);
        Due.is("he loses to nobody", x.fresh(0, 0, 1), 0);
        x.law(1);
        Due.is("the first one, LAW 1", x.fresh(0, 0, 0), 0);
        Due.is("the first one, LAW 1", x.fresh(0, 0, 1), -4);
        x = Due.of("p00;p00;p00;w20;l1;");
        Due.is("a ring of three and one who loses to one of them", x.fresh(0, 0, 0), 7);
        Due.is("just to one", x.fresh(0, 0, 1), 1);
        x = Due.of("p00;p00;l1;");
        Due.is("he has to beat 0 and to lose to 1", x.fresh(0, 0, 0), 1);
        Due.is("to one", x.fresh(0, 0, 1), 1);
        Due.is("a PRIEST beats 0 in vain", x.fresh(6, 0, 0), 0);
        Due.is("a PRIEST beats 0 in vain", x.fresh(6, 9, 1), -4);
        Due.is("a NUISANCE who wins once, FIGURE 0", x.fresh(1, 0, 0), 0);
        Due.is("a NUISANCE who wins once, FIGURE 1", x.fresh(1, 1, 0), 1);
        Due.is("a NOVICE who wins once, FIGURE 2", x.fresh(5, 2, 0), 0);
        Due.is("a TWIN who wins once, FIGURE 0", x.fresh(4, 0, 0), 1);
        x = Leagues.seven();
        Due.is("an eighth, whoever is a master of his", x.fresh(0, 0, 0), 64);
        Due.is("an eighth has to lose to three", x.fresh(0, 0, 1), 3);
        x = Due.of("p11;p00;p00;l1;w20;");
        // He loses to 1 or 2, if he wins against 0; else 0 COUNTS no more, and he wins against 1 alone.
        Due.is("a win more, and the NUISANCE COUNTS no more", x.fresh(0, 0, 0), 4);
        String before = Due.seen(x);
        x.fresh(7, 9, 0);
        int[][] wrong = {{8, 0, 0}, {-1, 0, 0}, {0, 10, 0}, {0, -1, 0}, {0, 0, 2}, {0, 0, -1}, {Integer.MIN_VALUE, 0, 0}};
        for (int[] w : wrong) {
            Due.is("not as told", x.fresh(w[0], w[1], w[2]), -1);
        }
        Due.same("nothing changes", Due.seen(x), before);
    }

    private static void promise17Leavers() {
        Due.is("nobody", new OneBeatsBoth().leavers(), 0);
        Due.is("one alone: nobody is left", Due.of("p00;l1;").leavers(), 1);
        Due.is("two, LAW 2", Due.of("p00;p00;").leavers(), 3);
        Due.is("two, LAW 1", Due.of("p00;p00;l1;").leavers(), 0);
        Due.is("three", Due.of("p00;p00;p00;").leavers(), 0);
        Due.is("a ring and the last of all", Due.of("p00;p00;p00;p00;w20;l1;").leavers(), 8);
        Due.is("a ring and the first of all", Due.of("p00;p00;p00;p00;w31;l1;").leavers(), 1);
        Due.is("four of whom two threes are rings", Due.of("p00;p00;p00;p00;w30;w10;w21;w13;l1;").leavers(), 10);
        Due.is("a PRIEST leaves a ring", Due.of("p60;p00;p00;p00;w31;l1;").leavers(), 1);
        // 1 has two wins, and COUNTS when 3 has left.
        Due.is("a win less, and the NUISANCE COUNTS", Due.of("p00;p11;p00;p00;w20;l1;").leavers(), 8);
        OneBeatsBoth x = Due.of("p00;p00;p00;p00;w20;w30;l1;");
        String before = Due.seen(x);
        Due.is("four, of whom two may leave", x.leavers(), 12);
        Due.same("nothing changes", Due.seen(x), before);
        Due.is("the ring of seven", Leagues.seven().leavers(), 0);
    }
}
