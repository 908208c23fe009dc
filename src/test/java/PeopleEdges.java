/** PEOPLE, KINDS, LAW, and promises 1 and 3 to 7, at their edges. */
final class PeopleEdges {
    private static final int LEAST = Integer.MIN_VALUE;
    private static final int MOST = Integer.MAX_VALUE;
    private static final String ALWAYS = "1111111";
    private static final String NEVER = "0000000";

    private PeopleEdges() {
    }

    static void run() {
        places();
        eachTwoHavePlayed();
        whoComes();
        kindsAndFigures();
        skills();
        counts();
        prices();
        laws();
        lawful();
        fewerThanLaw();
        pairsAndTurns();
        promise1();
        promise3();
        promise4();
        promise5();
        promise6();
        promise7();
    }

    private static void places() {
        Doc.says("Terms", "==== 1 PEOPLE 0 .. 6 as they come;");
        OneBeatsBoth x = new OneBeatsBoth();
        x.keep(0, 1, 2, 5);
        for (int i = 0; i <= 6; i++) {
            Due.is("nobody is " + i + " yet", x.one(i, 0), -1);
            Due.is("who comes", x.comes(0), i);
            Due.is(i + " is there", x.one(i, 0), 2);
        }
        Due.is("there is no 7", x.comes(0), -2);
        Due.is("nobody is 7", x.one(7, 0), -1);
        Due.is("nobody is -1", x.one(-1, 0), -1);
        Due.is("seven are there", x.count(0), 7);
    }

    private static void eachTwoHavePlayed() {
        Doc.says("Terms", "of each two one has BEATEN the other one.");
        for (int n = 0; n <= 7; n++) {
            OneBeatsBoth x = Leagues.inARow(n);
            oneOfEachTwo(x, n);
            for (int i = 0; i < n; i++) {
                for (int j = 0; j < i; j++) {
                    x.beat(i, j);
                    oneOfEachTwo(x, n);
                }
            }
            if (n > 0) {
                Due.read(x, "u;");
                oneOfEachTwo(x, n - 1);
            }
        }
    }

    private static void oneOfEachTwo(OneBeatsBoth x, int n) {
        Due.is("so many", x.count(0), n);
        for (int i = 0; i < n; i++) {
            Due.is("nobody who isn't there was beaten by " + i, x.one(i, 3) >> n, 0);
            Due.holds(i + " hasn't BEATEN himself", !Leagues.hasBeaten(x, i, i));
            for (int j = 0; j < i; j++) {
                Due.holds("one of " + j + " and " + i, Leagues.hasBeaten(x, i, j) != Leagues.hasBeaten(x, j, i));
            }
        }
    }

    private static void whoComes() {
        Doc.says("Terms", "Who comes has BEATEN nobody, and all who are there have BEATEN him.");
        for (int n = 0; n <= 6; n++) {
            OneBeatsBoth x = Leagues.inARow(n);
            for (int i = 0; i < n - 1; i++) {
                x.beat(n - 1, i);
            }
            comesLast(x, n);
        }
        OneBeatsBoth x = Leagues.seven();
        Due.read(x, "u;");
        comesLast(x, 6);
        Due.read(x, "w60;w61;w62;w63;w64;w65;u;");
        comesLast(x, 6);
    }

    private static void comesLast(OneBeatsBoth x, int n) {
        x.keep(0, 1, 0, 0);
        Due.is("his number", x.comes(0), n);
        Due.is("whom he has BEATEN", x.one(n, 3), 0);
        for (int i = 0; i < n; i++) {
            Due.holds(i + " has BEATEN him", Leagues.hasBeaten(x, i, n));
        }
    }

    private static void kindsAndFigures() {
        Doc.says("Terms", "KINDS of PEOPLE: 0 PLAYER; 1 NUISANCE under PLAYER; 2 PAID under PLAYER; 3 GUEST under PLAYER; "
            + "4 TWIN under NUISANCE; 5 NOVICE under PAID; 6 PRIEST under GUEST; 7 CHAMPION under PLAYER: a FIGURE (0 .. 9).");
        for (int kind = -1; kind <= 8; kind++) {
            for (int figure = -1; figure <= 10; figure++) {
                boolean is = kind >= 0 && kind <= 7 && figure >= 0 && figure <= 9;
                String who = "KIND " + kind + " FIGURE " + figure;
                OneBeatsBoth x = new OneBeatsBoth();
                Due.is(who + " is kept", x.keep(0, 1, kind, figure), is ? 0 : -1);
                Due.is(who + " comes", x.comes(0), is ? 0 : -11);
                Due.is(who + ": KIND", x.one(0, 0), is ? kind : -1);
                Due.is(who + ": FIGURE", x.one(0, 1), is ? figure : -1);
            }
        }
    }

    /** What is told of a KIND with FIGURE 0, with FIGURE 1 and with FIGURE 9. */
    private static void told(String words, int kind, int what, int none, int one, int nine) {
        Doc.says("Terms", words);
        Due.is("FIGURE 0", Due.of("p" + kind + "0;").one(0, what), none);
        Due.is("FIGURE 1", Due.of("p" + kind + "1;").one(0, what), one);
        Due.is("FIGURE 9", Due.of("p" + kind + "9;").one(0, what), nine);
        Due.is("FIGURE 9, the last of seven", Leagues.withWins(kind, 9, 6, 6).one(6, what), nine);
    }

    private static void skills() {
        told("SKILL: PLAYER FIGURE and 1;", 0, 2, 1, 2, 10);
        told("NUISANCE twice a PLAYER's;", 1, 2, 2, 4, 20);
        told("PAID as a PLAYER;", 2, 2, 1, 2, 10);
        told("GUEST a PLAYER's and 3;", 3, 2, 4, 5, 13);
        told("TWIN a NUISANCE's less 1; NOVICE 1;", 4, 2, 1, 3, 19);
        told("NOVICE 1;", 5, 2, 1, 1, 1);
        told("PRIEST as a GUEST;", 6, 2, 4, 5, 13);
        told("CHAMPION a PLAYER's and 9.", 7, 2, 10, 11, 19);
        told("\"a and b\" of two numbers is their sum", 0, 2, 1, 2, 10);
        told("Said once more: of a KIND (or SORT) \"n more\", \"n less\" without more words is: than what the one it is "
            + "under has;", 4, 2, 1, 3, 19);
    }

    private static void prices() {
        told("PRICE (for which one, who won a match, lets it be turned): PLAYER 3;", 0, 5, 3, 3, 3);
        told("NUISANCE a PLAYER's and FIGURE;", 1, 5, 3, 4, 12);
        told("PAID a PLAYER's less 2;", 2, 5, 1, 1, 1);
        told("GUEST twice a PLAYER's;", 3, 5, 6, 6, 6);
        told("TWIN a NUISANCE's less 1; NOVICE a PAID's", 4, 5, 2, 3, 11);
        told("NOVICE a PAID's times (FIGURE and 1);", 5, 5, 1, 2, 10);
        told("PRIEST a GUEST's and 5;", 6, 5, 11, 11, 11);
        told("CHAMPION a PLAYER's times 4.", 7, 5, 12, 12, 12);
    }

    /** Whether one COUNTS who has BEATEN 0 .. 6, be he the first or the last. */
    private static void countsBy(int kind, int figure, String due) {
        for (int wins = 0; wins <= 6; wins++) {
            for (int place = 0; place <= 6; place += 6) {
                OneBeatsBoth x = Leagues.withWins(kind, figure, place, wins);
                String who = "KIND " + kind + " FIGURE " + figure + " at " + place + " with " + wins;
                Due.is(who, x.one(place, 4), due.charAt(wins) - '0');
                Due.is(who + " and six PLAYERS", x.count(2), 6 + due.charAt(wins) - '0');
            }
        }
    }

    private static void counts() {
        Doc.says("Terms", "COUNTS (w of them one has BEATEN): PLAYER always;");
        countsBy(0, 0, ALWAYS);
        countsBy(0, 9, ALWAYS);
        Doc.says("Terms", "NUISANCE if w is no more than FIGURE;");
        countsBy(1, 0, "1000000");
        countsBy(1, 1, "1100000");
        countsBy(1, 5, "1111110");
        countsBy(1, 6, ALWAYS);
        countsBy(1, 9, ALWAYS);
        Doc.says("Terms", "PAID, GUEST, CHAMPION as a PLAYER;");
        for (int kind : new int[] {2, 3, 7}) {
            countsBy(kind, 0, ALWAYS);
            countsBy(kind, 9, ALWAYS);
        }
        Doc.says("Terms", "TWIN as a NUISANCE, or if w is odd;");
        countsBy(4, 0, "1101010");
        countsBy(4, 1, "1101010");
        countsBy(4, 2, "1111010");
        countsBy(4, 5, "1111110");
        countsBy(4, 6, ALWAYS);
        Doc.says("Terms", "NOVICE if w is FIGURE at least;");
        countsBy(5, 0, ALWAYS);
        countsBy(5, 1, "0111111");
        countsBy(5, 6, "0000001");
        countsBy(5, 7, NEVER);
        countsBy(5, 9, NEVER);
        Doc.says("Terms", "PRIEST never.");
        countsBy(6, 0, NEVER);
        countsBy(6, 9, NEVER);
    }

    private static void laws() {
        Doc.says("Terms", "LAW (1, 2; 2 at first):");
        OneBeatsBoth x = new OneBeatsBoth();
        Due.is("at first", x.count(1), 2);
        Due.is("LAW 0", x.law(0), -1);
        Due.is("LAW 1", x.law(1), 2);
        Due.is("LAW 3", x.law(3), -1);
        Due.is("LAW 1 stays", x.count(1), 1);
        Due.is("LAW 2", x.law(2), 1);
        Due.is("LAW 2 it is", x.count(1), 2);
    }

    private static void lawful() {
        Doc.says("Terms", "the league is LAWFUL if for any LAW unlike PEOPLE there is one who has BEATEN all of them, "
            + "and COUNTS: their MASTER.");
        Due.is("a ring of three, LAW 1", Due.of("p00;p00;p00;w20;l1;").lawful(), 1);
        Due.is("its first doesn't COUNT", Due.of("p60;p00;p00;w20;l1;").lawful(), 0);
        Due.is("its last doesn't COUNT", Due.of("p00;p00;p60;w20;l1;").lawful(), 0);
        Due.is("the first has no MASTER", Due.of("p00;p00;p00;l1;").lawful(), 0);
        Due.is("the last has no MASTER", Due.of("p00;p00;p00;w20;w21;l1;").lawful(), 0);
        Due.is("the ring of seven, LAW 2", Leagues.seven().lawful(), 1);
        for (int[] match : Leagues.MATCHES) {
            OneBeatsBoth x = Leagues.seven();
            Leagues.turn(x, match);
            Due.is("but for one match, LAW 2", x.lawful(), 0);
            x.law(1);
            Due.is("but for one match, LAW 1", x.lawful(), 1);
        }
        for (int i = 0; i < 7; i++) {
            StringBuilder people = new StringBuilder("p00;p00;p00;p00;p00;p00;p00;");
            people.setCharAt(4 * i + 1, '6');
            OneBeatsBoth x = Leagues.seven(people.toString());
            Due.is("but for one who doesn't COUNT, LAW 2", x.lawful(), 0);
            x.law(1);
            Due.is("but for one who doesn't COUNT, LAW 1", x.lawful(), 1);
        }
        Due.is("NUISANCES who win 3, FIGURE 3", Leagues.sevenOf(1, 3).lawful(), 1);
        Due.is("NUISANCES who win 3, FIGURE 2", Leagues.sevenOf(1, 2).lawful(), 0);
        Due.is("NOVICES who win 3, FIGURE 3", Leagues.sevenOf(5, 3).lawful(), 1);
        Due.is("NOVICES who win 3, FIGURE 4", Leagues.sevenOf(5, 4).lawful(), 0);
    }

    private static void fewerThanLaw() {
        Doc.says("Terms", "(Fewer PEOPLE than LAW: LAWFUL.)");
        int[][] due = {{1, 0, 0, 0}, {1, 1, 0, 0}};
        for (int n = 0; n <= 3; n++) {
            for (int law = 1; law <= 2; law++) {
                OneBeatsBoth x = Leagues.inARow(n);
                x.law(law);
                Due.is(n + " by LAW " + law, x.lawful(), due[law - 1][n]);
            }
        }
        Due.is("a PRIEST alone, LAW 2", Due.of("p60;").lawful(), 1);
        Due.is("a PRIEST alone, LAW 1", Due.of("p60;l1;").lawful(), 0);
    }

    private static void pairsAndTurns() {
        Doc.says("Terms", "A PAIR: two unlike PEOPLE, the lesser ahead.");
        Due.is("0 and 1", Due.of("p00;p00;").orphans(1), 1);
        Due.is("0 and 1, whoever won", Due.of("p00;p00;w10;").orphans(1), 1);
        Due.is("all PAIRS of seven", Due.of("p60;p60;p60;p60;p60;p60;p60;").orphans(0), 21);
        Doc.says("Terms", "To turn a match: the other one has BEATEN the one then.");
        for (int[] match : Leagues.MATCHES) {
            OneBeatsBoth x = Leagues.seven();
            int[] before = new int[7];
            for (int i = 0; i < 7; i++) {
                before[i] = x.one(i, 3);
            }
            before[match[0]] ^= 1 << match[1];
            before[match[1]] ^= 1 << match[0];
            Leagues.turn(x, match);
            for (int i = 0; i < 7; i++) {
                Due.is("whom " + i + " has BEATEN then", x.one(i, 3), before[i]);
            }
        }
    }

    private static void promise1() {
        Doc.says("Promise 1: A new object", "Nobody, LAW 2.");
        OneBeatsBoth x = new OneBeatsBoth();
        int[] due = {0, 2, 0, 0};
        for (int what = 0; what < 4; what++) {
            Due.is("count " + what, x.count(what), due[what]);
        }
        for (int what = 0; what < 6; what++) {
            Due.is("one 0 " + what, x.one(0, what), -1);
        }
        Due.is("lawful", x.lawful(), 1);
        Due.is("cup", x.cup(), -4);
        Due.is("beat", x.beat(0, 1), -1);
        Due.is("restore", x.restore(), -3);
        Due.is("image", x.image(), 0);
    }

    private static void promise3() {
        Doc.says("Promise 3: one", "One of PEOPLE: 0 KIND, 1 FIGURE, 2 SKILL, 3 whom he has BEATEN (bits), 4 1 COUNTS, 5 PRICE. -1.");
        for (int n = 0; n <= 7; n++) {
            OneBeatsBoth x = Leagues.inARow(n);
            for (int what = 0; what <= 5; what++) {
                Due.is("nobody " + n, x.one(n, what), -1);
                Due.is("nobody -1", x.one(-1, what), -1);
                if (n > 0) {
                    Due.holds("the last", x.one(n - 1, what) >= 0);
                    Due.holds("the first", x.one(0, what) >= 0);
                }
            }
            Due.is("nothing is told by 6", x.one(0, 6), -1);
            Due.is("nothing is told by -1", x.one(0, -1), -1);
        }
        OneBeatsBoth x = Leagues.inARow(7);
        Due.is("the first has BEATEN all", x.one(0, 3), 126);
        Due.is("the last has BEATEN nobody", x.one(6, 3), 0);
        Due.read(x, "w60;w61;w62;w63;w64;w65;");
        Due.is("the last has BEATEN all", x.one(6, 3), 63);
        for (int far : new int[] {LEAST, LEAST + 1, -32, 32, 64, 256, MOST}) {
            Due.is("nobody", x.one(far, 0), -1);
            Due.is("nothing told so", x.one(0, far), -1);
        }
    }

    private static void promise4() {
        Doc.says("Promise 4: comes", "The one on SHELF d comes: his number. -1, -11, -12 (a ROW), -2.");
        OneBeatsBoth x = new OneBeatsBoth();
        x.keep(0, 1, 1, 1);
        x.keep(7, 1, 7, 7);
        for (int i = 0; i < 7; i++) {
            Due.is("from SHELF " + i % 2 * 7, x.comes(i % 2 * 7), i);
        }
        Due.is("no room", x.comes(0), -2);
        Due.is("no room", x.comes(7), -2);
        Due.read(x, "u;");
        Due.is("room for one", x.comes(0), 6);
        Due.is("no room again", x.comes(0), -2);
        Due.read(x, "u;u;u;u;u;u;u;");
        Due.is("all places are free again", x.comes(0), 0);
        x.row(1, 0, 0);
        Due.is("SHELF -1", x.comes(-1), -1);
        Due.is("SHELF 8", x.comes(8), -1);
        Due.is("nothing", x.comes(2), -11);
        Due.is("a ROW of none", x.comes(1), -12);
    }

    private static void promise5() {
        Doc.says("Promise 5: beat", "One has BEATEN another one: 1 if that turns it, 0. -1 (one twice, too).");
        for (int n = 0; n <= 7; n++) {
            OneBeatsBoth x = Leagues.inARow(n);
            for (int i = 0; i < n; i++) {
                Due.is("one twice", x.beat(i, i), -1);
                Due.is("nobody " + n, x.beat(i, n), -1);
                Due.is("nobody " + n, x.beat(n, i), -1);
                Due.is("nobody -1", x.beat(i, -1), -1);
                Due.is("nobody -1", x.beat(-1, i), -1);
            }
            Due.is("nobody twice", x.beat(n, n), -1);
            Due.is("nobody twice", x.beat(-1, -1), -1);
            if (n > 1) {
                Due.is("he has", x.beat(0, n - 1), 0);
                Due.is("it is turned", x.beat(n - 1, 0), 1);
                Due.is("he has", x.beat(n - 1, 0), 0);
                Due.is("it is turned back", x.beat(0, n - 1), 1);
            }
        }
        OneBeatsBoth x = Leagues.inARow(7);
        for (int far : new int[] {LEAST, -32, 32, 33, MOST}) {
            Due.is("nobody", x.beat(0, far), -1);
            Due.is("nobody", x.beat(far, 0), -1);
        }
    }

    private static void promise6() {
        Doc.says("Promise 6: law", "LAW becomes v: what it was. -1.");
        OneBeatsBoth x = new OneBeatsBoth();
        int was = 2;
        for (int v : new int[] {2, 1, 1, 2, 2, 1}) {
            Due.is("it was", x.law(v), was);
            Due.is("it is", x.count(1), v);
            was = v;
        }
        for (int v : new int[] {0, 3, -1, -2, 4, 257, 258, 65537, LEAST, MOST}) {
            Due.is("no LAW", x.law(v), -1);
            Due.is("it stays", x.count(1), 1);
        }
    }

    private static void promise7() {
        Doc.says("Promise 7: lawful", "LAWFUL: 1, 0.");
        OneBeatsBoth x = new OneBeatsBoth();
        Due.is("nobody", x.lawful(), 1);
        x.keep(0, 1, 0, 0);
        x.comes(0);
        Due.is("one, LAW 2", x.lawful(), 1);
        x.comes(0);
        Due.is("two, LAW 2", x.lawful(), 0);
        x = Leagues.seven();
        Due.is("seven, LAW 2", x.lawful(), 1);
        Due.read(x, "u;");
        Due.is("six of them, LAW 2", x.lawful(), 0);
        x.law(1);
        Due.is("six of them, LAW 1", x.lawful(), 1);
    }
}
