/** Promises 1 to 7: leagues. */
public final class LeagueTests {
    public static void main(String[] args) {
        promise1NewObject();
        promise2League();
        promise2Faults();
        promise2Refusals();
        promise3One();
        promise3Counts();
        promise4Comes();
        promise5Beat();
        promise6Law();
        promise7Lawful();
        Due.end("LeagueTests");
    }

    private static void promise1NewObject() {
        OneBeatsBoth x = new OneBeatsBoth();
        Due.is("a new object's PEOPLE", x.count(0), 0);
        Due.is("a new object's LAW", x.count(1), 2);
        Due.is("a new object's first one", x.one(0, 0), -1);
        Due.is("a new object's image", x.restore(), -3);
        for (int d = 0; d < 8; d++) {
            Due.is("a new object's shelf", x.price(d), -11);
        }
        Due.of("p00;l1;");
        Due.is("another object is left alone", x.count(0), 0);
        Due.is("another object is left alone", new OneBeatsBoth().count(1), 2);
    }

    private static void promise2League() {
        OneBeatsBoth x = new OneBeatsBoth();
        Due.is("four STATEMENTS", Due.read(x, "p19;p20;w10;l1;"), 4);
        Due.is("KIND", x.one(0, 0), 1);
        Due.is("FIGURE", x.one(0, 1), 9);
        Due.is("whom 0 has BEATEN", x.one(0, 3), 0);
        Due.is("whom 1 has BEATEN", x.one(1, 3), 1);
        Due.is("LAW", x.count(1), 1);
        Due.is("the text stays", x.league(7), 4);
        Due.is("all comes to those who are there", x.count(0), 4);
        Due.is("who comes is beaten by all", x.one(0, 3), 12);
        Due.is("u alone", Due.read(x, "u;"), 1);
        Due.is("the latest has left", x.count(0), 3);
        Due.is("nobody beats who has left", x.one(0, 3), 4);
        Due.is("u and p", Due.read(x, "u;u;p79;"), 3);
        Due.is("who came then", x.one(1, 0), 7);
        Due.is("who came then has beaten nobody", x.one(1, 3), 0);
        Due.is("the same match twice", Due.read(x, "w10;w10;w01;w10;"), 4);
        Due.is("the latter holds", x.one(1, 3), 1);
        Due.is("seven have room", Due.read(new OneBeatsBoth(), "p00;p10;p20;p30;p40;p50;p60;"), 7);
        Due.is("an eighth behind one who left", Due.read(x, "p00;p00;p00;p00;p00;u;p00;"), 7);
        String longest = "p00;p00;p00;p00;p00;p00;p00;u;u;w01;w10;w01;w10;w01;w10;w01;w10;w01;w10;w01;w10;w01;w10;w01;w10;l1;";
        Due.is("the longest text's size", longest.length(), 99);
        Due.is("the longest text", Due.read(new OneBeatsBoth(), longest), 26);
    }

    private static void promise2Faults() {
        fault("", -1000);
        fault(";", -1000);
        fault("P00;", -1000);
        fault("p", -1001);
        fault("pp0;", -1001);
        fault("p0", -1002);
        fault("p0;", -1002);
        fault("p00", -1003);
        fault("p000;", -1003);
        fault("p0:;", -1002);
        fault("p/0;", -1001);
        fault("w0", -1002);
        fault("w00p", -1003);
        fault("l", -1001);
        fault("l11;", -1002);
        fault("u0;", -1001);
        fault("u", -1001);
        fault("p00;;", -1004);
        fault("p00; p00;", -1004);
        fault("p00;p", -1005);
        fault("u;x", -1002);
        fault("p80;", -2000);
        fault("p90;", -2000);
        fault("w01;", -2000);
        fault("p00;w01;", -2004);
        fault("p00;w10;", -2004);
        fault("p00;w00;", -2004);
        fault("p00;p00;w02;", -2008);
        fault("l0;", -2000);
        fault("l3;", -2000);
        fault("u;", -2000);
        fault("p00;u;u;", -2006);
        fault("p00;p00;u;w01;", -2010);
        fault("p00;p00;p00;p00;p00;p00;p00;p00;", -2028);
        fault("p00;u;p00;p00;p00;p00;p00;p00;p00;p00;", -2034);
        fault("p00;p80;l9;", -2004);
        // Kind 1, of any place, goes ahead of kind 2.
        fault("u;l9;p80;x", -1009);
        fault("u;p0", -1004);

        OneBeatsBoth x = new OneBeatsBoth();
        Due.fill(x, 0, 0, 'p', '0', '0', 315);
        Due.is("an int's lowest byte", x.league(0), 1);
        Due.fill(x, 0, 0, 'p', -1, '0', ';');
        Due.is("a byte below 0", x.league(0), -1001);
        Due.fill(x, 0, 0, -1);
        Due.is("a byte below 0 for a letter", x.league(0), -1000);
        Due.fill(x, 0, 0, 'l', '1', -1);
        Due.is("a byte below 0 for an end", x.league(0), -1002);
    }

    private static void fault(String text, int due) {
        OneBeatsBoth x = new OneBeatsBoth();
        x.keep(2, 1, 4, 4);
        Due.write(x, 1, text);
        String before = Due.seen(x);
        Due.is("the text " + text, x.league(1), due);
        Due.same("what is there behind " + text, Due.seen(x), before);
    }

    private static void promise2Refusals() {
        OneBeatsBoth x = Due.of("p00;p11;w10;");
        x.keep(0, 1, 0, 0);
        x.row(1, 1, 2);
        x.put(1, 0, 'u');
        x.put(1, 1, ';');
        x.row(2, 2, 0);
        x.keep(7, 0, 0, 0);
        String before = Due.seen(x);
        Due.is("league(-1)", x.league(-1), -1);
        Due.is("league(8)", x.league(8), -1);
        Due.is("league of the least", x.league(Integer.MIN_VALUE), -1);
        Due.is("league of nothing", x.league(7), -11);
        Due.is("league of one of PEOPLE", x.league(0), -12);
        Due.is("league of shorts", x.league(1), -12);
        Due.is("league of ints", x.league(2), -12);
        Due.same("refused calls", Due.seen(x), before);
        Due.is("a text with a FAULT, and PEOPLE there", Due.read(x, "l1;u;w10;"), -2005);
        Due.is("with a FAULT nothing comes", x.count(0), 2);
        Due.is("with a FAULT nothing comes", x.count(1), 2);
        Due.is("with a FAULT nothing comes", x.one(1, 3), 1);
        Due.is("with a FAULT nothing comes", x.one(1, 1), 1);
    }

    private static void promise3One() {
        // KIND, FIGURE, SKILL, PRICE
        int[][] due = {
            {0, 0, 1, 3}, {0, 9, 10, 3}, {1, 0, 2, 3}, {1, 4, 10, 7}, {2, 0, 1, 1}, {2, 6, 7, 1},
            {3, 0, 4, 6}, {3, 5, 9, 6}, {4, 0, 1, 2}, {4, 7, 15, 9}, {5, 0, 1, 1}, {5, 8, 1, 9},
            {6, 0, 4, 11}, {6, 3, 7, 11}, {7, 0, 10, 12}, {7, 9, 19, 12}
        };
        for (int[] p : due) {
            OneBeatsBoth x = Due.of("p" + p[0] + p[1] + ";");
            String who = " of KIND " + p[0] + " FIGURE " + p[1];
            Due.is("KIND" + who, x.one(0, 0), p[0]);
            Due.is("FIGURE" + who, x.one(0, 1), p[1]);
            Due.is("SKILL" + who, x.one(0, 2), p[2]);
            Due.is("PRICE" + who, x.one(0, 5), p[3]);
        }
        OneBeatsBoth x = Due.of("p00;p00;p00;p00;w32;w30;");
        Due.is("whom 0 has BEATEN", x.one(0, 3), 6);
        Due.is("whom 1 has BEATEN", x.one(1, 3), 12);
        Due.is("whom 2 has BEATEN", x.one(2, 3), 0);
        Due.is("whom 3 has BEATEN", x.one(3, 3), 5);
        Due.is("nobody there", x.one(4, 0), -1);
        Due.is("nobody there", x.one(-1, 0), -1);
        Due.is("nobody there", x.one(Integer.MAX_VALUE, 0), -1);
        Due.is("nothing told so", x.one(0, 6), -1);
        Due.is("nothing told so", x.one(0, -1), -1);
        Due.is("nothing told so", x.one(0, Integer.MIN_VALUE), -1);
    }

    /** One of a KIND with FIGURE 3 who has BEATEN 0 .. 6 of them. */
    private static void promise3Counts() {
        int[][] due = {
            {1, 1, 1, 1, 1, 1, 1},
            {1, 1, 1, 1, 0, 0, 0},
            {1, 1, 1, 1, 1, 1, 1},
            {1, 1, 1, 1, 1, 1, 1},
            {1, 1, 1, 1, 0, 1, 0},
            {0, 0, 0, 1, 1, 1, 1},
            {0, 0, 0, 0, 0, 0, 0},
            {1, 1, 1, 1, 1, 1, 1}
        };
        for (int kind = 0; kind < 8; kind++) {
            OneBeatsBoth x = Due.of("p" + kind + "3;");
            for (int wins = 0; wins <= 6; wins++) {
                Due.is("COUNTS of KIND " + kind + " by " + wins, x.one(0, 4), due[kind][wins]);
                if (wins < 6) {
                    Due.read(x, "p00;");
                }
            }
            Due.read(x, "w60;w50;w40;w30;w20;w10;");
            Due.is("COUNTS of KIND " + kind + " beaten by all", x.one(0, 4), due[kind][0]);
        }
    }

    private static void promise4Comes() {
        OneBeatsBoth x = new OneBeatsBoth();
        x.keep(3, 1, 5, 8);
        for (int i = 0; i < 7; i++) {
            Due.is("his number", x.comes(3), i);
            Due.is("his KIND", x.one(i, 0), 5);
            Due.is("his FIGURE", x.one(i, 1), 8);
            Due.is("whom he has BEATEN", x.one(i, 3), 0);
            Due.is("all have BEATEN him", x.one(0, 3), (1 << i + 1) - 2);
        }
        Due.is("he is on his SHELF still", x.price(3), 9);
        x.row(4, 0, 0);
        String before = Due.seen(x);
        Due.is("no room", x.comes(3), -2);
        Due.is("nothing, and no room", x.comes(5), -11);
        Due.is("a ROW, and no room", x.comes(4), -12);
        Due.is("no SHELF", x.comes(8), -1);
        Due.is("no SHELF", x.comes(-1), -1);
        Due.same("refused calls", Due.seen(x), before);
        x.keep(3, 1, 0, 0);
        Due.is("who came is who he was", x.one(0, 0), 5);
        Due.read(x, "u;");
        Due.is("room again", x.comes(3), 6);
        Due.is("his KIND", x.one(6, 0), 0);
    }

    private static void promise5Beat() {
        OneBeatsBoth x = Due.of("p00;p00;p00;");
        Due.is("he has already", x.beat(0, 2), 0);
        Due.is("it turns", x.beat(2, 0), 1);
        Due.is("it doesn't turn again", x.beat(2, 0), 0);
        Due.is("whom 2 has BEATEN", x.one(2, 3), 1);
        Due.is("whom 0 has BEATEN", x.one(0, 3), 2);
        Due.is("whom 1 has BEATEN", x.one(1, 3), 4);
        Due.is("back", x.beat(0, 2), 1);
        Due.is("whom 2 has BEATEN", x.one(2, 3), 0);
        String before = Due.seen(x);
        Due.is("one twice", x.beat(1, 1), -1);
        Due.is("nobody", x.beat(0, 3), -1);
        Due.is("nobody", x.beat(3, 0), -1);
        Due.is("nobody", x.beat(-1, 0), -1);
        Due.is("nobody", x.beat(0, -1), -1);
        Due.is("nobody", x.beat(0, 32), -1);
        Due.is("nobody", x.beat(Integer.MIN_VALUE, Integer.MAX_VALUE), -1);
        Due.same("refused calls", Due.seen(x), before);
        Due.is("nobody at all", new OneBeatsBoth().beat(0, 1), -1);
    }

    private static void promise6Law() {
        OneBeatsBoth x = new OneBeatsBoth();
        Due.is("it was 2", x.law(1), 2);
        Due.is("it was 1", x.law(1), 1);
        Due.is("it was 1", x.law(2), 1);
        Due.is("it was 2", x.law(2), 2);
        x.law(1);
        for (int v : new int[] {0, 3, -1, Integer.MIN_VALUE, Integer.MAX_VALUE}) {
            Due.is("no LAW", x.law(v), -1);
            Due.is("LAW stays", x.count(1), 1);
        }
    }

    private static void promise7Lawful() {
        OneBeatsBoth x = new OneBeatsBoth();
        Due.is("nobody, LAW 2", x.lawful(), 1);
        x.law(1);
        Due.is("nobody, LAW 1", x.lawful(), 1);
        Due.read(x, "p00;");
        Due.is("one, LAW 1", x.lawful(), 0);
        x.law(2);
        Due.is("one, LAW 2: fewer than LAW", x.lawful(), 1);
        Due.read(x, "p00;");
        Due.is("two, LAW 2", x.lawful(), 0);
        Due.read(x, "p00;w20;l1;");
        Due.is("a ring of three, LAW 1", x.lawful(), 1);
        x.law(2);
        Due.is("a ring of three, LAW 2", x.lawful(), 0);
        Due.is("three in a row, LAW 1", Due.of("p00;p00;p00;l1;").lawful(), 0);
        Due.is("a ring with a PRIEST", Due.of("p00;p60;p00;w20;l1;").lawful(), 0);
        Due.is("a ring with a NUISANCE, FIGURE 0", Due.of("p00;p10;p00;w20;l1;").lawful(), 0);
        Due.is("a ring with a NUISANCE, FIGURE 1", Due.of("p00;p11;p00;w20;l1;").lawful(), 1);
        Due.is("a ring with a TWIN, FIGURE 0", Due.of("p00;p40;p00;w20;l1;").lawful(), 1);
        Due.is("a ring with a NOVICE, FIGURE 2", Due.of("p00;p52;p00;w20;l1;").lawful(), 0);
        Due.is("a ring with a NOVICE, FIGURE 1", Due.of("p00;p51;p00;w20;l1;").lawful(), 1);
        x = Leagues.seven();
        Due.is("the ring of seven, LAW 2", x.lawful(), 1);
        x.law(1);
        Due.is("the ring of seven, LAW 1", x.lawful(), 1);
        Due.is("a ring of seven NOVICES who win 3, FIGURE 4", Leagues.sevenOf(5, 4).lawful(), 0);
        Due.is("a ring of seven NOVICES who win 3, FIGURE 3", Leagues.sevenOf(5, 3).lawful(), 1);
        Due.is("a ring of seven NUISANCES who win 3, FIGURE 2", Leagues.sevenOf(1, 2).lawful(), 0);
        Due.is("a ring of seven TWINS who win 3, FIGURE 0", Leagues.sevenOf(4, 0).lawful(), 1);
    }
}
