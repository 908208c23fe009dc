/** A LEAGUE as a text, and promise 2, at their edges. */
final class TextEdges {
    private static final String TEN = "0123456789";
    private static final String LETTERS = "pwlu";
    private static final String STAYS = "l2;l2;l2;l2;l2;l2;l2;l2;l2;l2;l2;";

    private TextEdges() {
    }

    static void run() {
        statements();
        someoneMore();
        whoHasBeaten();
        lawAndLeaving();
        atLeastOne();
        brokenPlaces();
        endsTooEarly();
        notAsTold();
        bothKinds();
        allOrNothing();
        oneBehindTheOther();
        whatStays();
        promise2();
        promise2Refusals();
    }

    private static int read(String text) {
        return Due.read(new OneBeatsBoth(), text);
    }

    private static void statements() {
        Doc.says("Terms", "==== 2 A LEAGUE is read from bytes: STATEMENTS, each with ; behind:");
        Due.is("one", read("l1;"), 1);
        Due.is("two", read("l1;l2;"), 2);
        Due.is("the last without ;", read("l1;l2"), -1005);
        Due.is("the first without ;", read("l1l2;"), -1002);
        Due.is("a ; too much", read("l1;;"), -1003);
        Due.is("a ; ahead", read(";l1;"), -1000);
        Due.is("a : for a ;", read("l1:"), -1002);
        Due.is("a < for a ;", read("l1<"), -1002);
    }

    private static void someoneMore() {
        Doc.says("Terms", "p, KIND, FIGURE (digits): one of PEOPLE more;");
        for (int kind = 0; kind <= 9; kind++) {
            for (int figure = 0; figure <= 9; figure += 9) {
                OneBeatsBoth x = new OneBeatsBoth();
                boolean is = kind <= 7;
                Due.is("p" + kind + figure, Due.read(x, "p" + kind + figure + ";"), is ? 1 : -2000);
                Due.is("so many", x.count(0), is ? 1 : 0);
                Due.is("KIND", x.one(0, 0), is ? kind : -1);
                Due.is("FIGURE", x.one(0, 1), is ? figure : -1);
            }
        }
        OneBeatsBoth x = Due.of("p00;p00;p00;p00;p00;p00;");
        Due.is("the seventh", Due.read(x, "p79;"), 1);
        Due.is("he is 6", x.one(6, 0), 7);
        Due.is("he is beaten by all", x.one(0, 3), 126);
        Due.is("the eighth", Due.read(x, "p79;"), -2000);
    }

    private static void whoHasBeaten() {
        Doc.says("Terms", "w, two PEOPLE (digits): the first has BEATEN the second;");
        for (int n = 0; n <= 7; n++) {
            for (int i = 0; i <= 9; i++) {
                for (int j = 0; j <= 9; j++) {
                    OneBeatsBoth x = Leagues.inARow(n);
                    boolean is = i < n && j < n && i != j;
                    Due.is("w" + i + j + " of " + n, Due.read(x, "w" + i + j + ";"), is ? 1 : -2000);
                    if (is) {
                        Due.holds("he has", Leagues.hasBeaten(x, i, j) && !Leagues.hasBeaten(x, j, i));
                    }
                }
            }
        }
    }

    private static void lawAndLeaving() {
        Doc.says("Terms", "l, LAW (a digit);");
        for (int law = 0; law <= 9; law++) {
            OneBeatsBoth x = new OneBeatsBoth();
            boolean is = law == 1 || law == 2;
            Due.is("l" + law, Due.read(x, "l" + law + ";"), is ? 1 : -2000);
            Due.is("LAW", x.count(1), is ? law : 2);
        }
        Doc.says("Terms", "u: the latest of PEOPLE leaves.");
        OneBeatsBoth x = Leagues.seven("p01;p02;p03;p04;p05;p06;p07;");
        for (int n = 7; n > 0; n--) {
            Due.is("so many", x.count(0), n);
            Due.is("the latest", x.one(n - 1, 1), n);
            Due.is("he leaves", Due.read(x, "u;"), 1);
            Due.is("nobody is there", x.one(n - 1, 1), -1);
            Due.is("nobody has BEATEN him", n > 1 ? x.one(0, 3) >> (n - 1) : 0, 0);
        }
        Due.is("nobody is left", Due.read(x, "u;"), -2000);
        Due.is("so many", x.count(0), 0);
    }

    private static void atLeastOne() {
        Doc.says("Terms", "At least one STATEMENT.");
        OneBeatsBoth x = new OneBeatsBoth();
        x.row(0, 0, 0);
        Due.is("an empty ROW", x.league(0), -1000);
        Due.read(x, "p00;");
        Due.is("an empty ROW, and one there", x.league(0), -1000);
        Due.is("one STATEMENT", Due.read(x, "u;"), 1);
    }

    /** Behind this beginning just these signs can go on. */
    private static void goesOn(String beginning, String signs) {
        for (int b = -128; b < 128; b++) {
            OneBeatsBoth x = new OneBeatsBoth();
            x.row(0, 0, beginning.length() + 1);
            for (int i = 0; i < beginning.length(); i++) {
                x.put(0, i, beginning.charAt(i));
            }
            x.put(0, beginning.length(), b);
            boolean can = b >= 0 && signs.indexOf((char) b) >= 0;
            String what = beginning + " and the byte " + b;
            if (!can) {
                Due.is(what, x.league(0), -1000 - beginning.length());
            } else if (b != ';') {
                Due.is(what + ", and no more", x.league(0), -1000 - beginning.length() - 1);
            } else {
                Due.holds(what + " is whole", x.league(0) > -1000 || x.league(0) <= -2000);
            }
        }
    }

    private static void brokenPlaces() {
        Doc.says("Terms", "FAULT: kind 1 the place of the first byte with which no LEAGUE can go on");
        for (String whole : new String[] {"", "l1;", "p00;u;"}) {
            goesOn(whole, LETTERS);
            goesOn(whole + "p", TEN);
            goesOn(whole + "p9", TEN);
            goesOn(whole + "p99", ";");
            goesOn(whole + "w", TEN);
            goesOn(whole + "w0", TEN);
            goesOn(whole + "w00", ";");
            goesOn(whole + "l", TEN);
            goesOn(whole + "l0", ";");
            goesOn(whole + "u", ";");
        }
        Due.is("at place 99", read(STAYS + STAYS + STAYS + "x"), -1099);
        Due.is("of two the first", read("l1;px;ly;"), -1004);
    }

    private static void endsTooEarly() {
        Doc.says("Terms", "(the size, if it ends too early);");
        String text = "p00;p00;w10;l1;u;";
        String whole = " 4 8 12 15 17 ";
        for (int size = 0; size <= text.length(); size++) {
            if (size == 0 || !whole.contains(" " + size + " ")) {
                Due.is("its first " + size, read(text.substring(0, size)), -1000 - size);
            } else {
                Due.holds("its first " + size, read(text.substring(0, size)) > 0);
            }
        }
        Due.is("at size 100", read(STAYS + STAYS + STAYS + "u"), -1100);
        Due.is("at size 100", read(STAYS + STAYS + STAYS.substring(3) + "p000"), -1099);
        Due.is("at size 100", read(STAYS + STAYS + STAYS.substring(3) + "l2;p"), -1100);
    }

    private static void notAsTold() {
        Doc.says("Terms", "else kind 2 the place of the letter of the first STATEMENT that isn't as told (a number out of range, "
            + "nobody there, one twice at w, no room): -1000 times the kind less the place.");
        Due.is("KIND 7", read("p79;"), 1);
        Due.is("KIND 8", read("p80;"), -2000);
        Due.is("KIND 9", read("p99;"), -2000);
        Due.is("LAW 0", read("l1;l0;"), -2003);
        Due.is("LAW 3", read("l2;l3;"), -2003);
        Due.is("LAW 9", read("l2;l9;"), -2003);
        Due.is("nobody for u", read("u;"), -2000);
        Due.is("nobody for u, any more", read("p00;u;u;"), -2006);
        Due.is("nobody for w", read("w01;"), -2000);
        Due.is("nobody for w, as yet", read("p00;w01;p00;"), -2004);
        Due.is("nobody for w, as yet", read("p00;w10;p00;"), -2004);
        Due.is("the last of two", read("p00;p00;w10;"), 3);
        Due.is("nobody behind him", read("p00;p00;w12;"), -2008);
        Due.is("one twice", read("p00;p00;w00;"), -2008);
        Due.is("one twice", read("p00;p00;w11;"), -2008);
        Due.is("nobody twice", read("w00;"), -2000);
        String seven = "p00;p00;p00;p00;p00;p00;p00;";
        Due.is("room for seven", read(seven), 7);
        Due.is("no room for eight", read(seven + "p00;"), -2028);
        Due.is("room for six and two", read(seven + "u;p00;"), 9);
        Due.is("no room for seven and one", read(seven + "u;p00;p00;"), -2034);
        Due.is("no room where seven are", Due.read(Leagues.inARow(7), "l1;p00;"), -2003);
        Due.is("room where six are", Due.read(Leagues.inARow(6), "l1;p00;"), 2);
        Due.is("at place 96", read(STAYS + STAYS + STAYS.substring(3) + "p80;"), -2096);
        Due.is("at place 98", Due.read(Leagues.inARow(1), "u;" + STAYS + STAYS + STAYS.substring(3) + "u;"), -2098);
    }

    private static void bothKinds() {
        Doc.says("Terms", "kind 1 (of any place) goes ahead of kind 2;");
        Due.is("kind 2 alone", read("u;l1;"), -2000);
        Due.is("kind 1 behind it", read("u;l1;x"), -1005);
        Due.is("kind 1 behind it, the size", read("u;l1"), -1004);
        Due.is("kind 1 ahead of it", read("x;u;"), -1000);
        Due.is("kind 1 in the same STATEMENT", read("p8x;"), -1002);
        Due.is("kind 1 in the same STATEMENT", read("p80"), -1003);
        Due.is("kind 2 at 0, kind 1 at 99", read("p80;" + STAYS + STAYS + STAYS.substring(6) + "l1x"), -1099);
    }

    private static void allOrNothing() {
        Doc.says("Terms", "Without FAULT all of it comes; with one nothing.");
        OneBeatsBoth x = Leagues.seven("p00;p11;p22;p33;p44;p55;p66;");
        String[] faults = {"l1;u;u;w10;x", "l1;w10;p00;", "u;u;u;u;u;u;u;l1;u;", "u;p00;w65;w60;l0;", "", "u"};
        int[] due = {-1011, -2007, -2017, -2014, -1000, -1001};
        for (int k = 0; k < faults.length; k++) {
            Due.write(x, 7, faults[k]);
            String before = Due.seen(x);
            Due.is(faults[k], x.league(7), due[k]);
            Due.same("nothing comes of " + faults[k], Due.seen(x), before);
        }
        Due.is("without FAULT", Due.read(x, "l1;u;u;w10;"), 4);
        Due.is("all comes", x.count(0), 5);
        Due.is("all comes", x.count(1), 1);
        Due.holds("all comes", Leagues.hasBeaten(x, 1, 0));
        Due.is("those who were there are there", x.one(4, 0), 4);
        Due.is("those behind them came", Due.read(x, "p79;w50;"), 2);
        Due.is("as the sixth", x.one(5, 0), 7);
        Due.is("with his win", x.one(5, 3), 1);
        Due.is("LAW stays, untold", x.count(1), 1);
    }

    private static void oneBehindTheOther() {
        Doc.says("Terms", "STATEMENTS are tried one behind the other, each on what those ahead of it made, and the first that can't "
            + "be done so is told.");
        Due.is("he has come ahead", read("p00;p00;w10;"), 3);
        Due.is("he comes behind", read("p00;w10;p00;"), -2004);
        Due.is("he has left ahead", read("p00;p00;u;w10;"), -2010);
        Due.is("he leaves behind", read("p00;p00;w10;u;"), 4);
        Due.is("of two the first", read("p00;w11;l3;u;u;"), -2004);
        Due.is("of two the first", read("p00;l3;w11;u;u;"), -2004);
        OneBeatsBoth x = Due.of("p00;p00;w10;w01;w10;l1;l2;l1;");
        Due.is("the latter holds", x.one(1, 3), 1);
        Due.is("the latter holds", x.count(1), 1);
        x = Due.of("p00;p00;p00;w20;u;p11;");
        Due.is("who comes in one's place", x.one(2, 0), 1);
        Due.is("has not BEATEN whom that one has", x.one(2, 3), 0);
    }

    private static void whatStays() {
        Doc.says("Terms", "The ROW that is read, and what is taken from a SHELF, stay there;");
        OneBeatsBoth x = new OneBeatsBoth();
        x.keep(1, 1, 1, 9);
        Due.write(x, 0, "u;w");
        x.comes(1);
        Due.is("with a FAULT", x.league(0), -1003);
        Due.write(x, 2, "u;p10;");
        Due.is("without", x.league(2), 2);
        Due.is("again", x.league(2), 2);
        Due.same("the ROW's first", Due.element(x, 0, 0), "" + (int) 'u');
        Due.same("the ROW's last", Due.element(x, 0, 2), "" + (int) 'w');
        Due.same("the ROW's end", Due.element(x, 0, 3), "throws.IllegalStateException");
        Due.same("the other's last", Due.element(x, 2, 5), "" + (int) ';');
        Due.is("who came is there still", x.price(1), 12);
        x.toss(1);
        Due.is("who failed is there still", x.price(1), 12);
        Due.fill(x, 3, 0);
        Due.is("who is told", x.played(3), 1);
        Due.is("who is judged", x.judge(3), -4);
        Due.same("the ROW of none is there", Due.element(x, 3, 0), "throws.IllegalStateException");
        Due.is("the ROW of none is there", x.price(3), -12);
    }

    private static void promise2() {
        Doc.says("Promise 2: league", "The text in SHELF d: how many STATEMENTS; the FAULT.");
        for (int n = 1; n <= 33; n++) {
            Due.is("so many", read("l1;".repeat(n)), n);
        }
        Due.is("a full ROW", Due.read(Leagues.inARow(7), "u;u;u;u;u;u;u;" + STAYS + STAYS + STAYS.substring(21) + "p00;p00;"), 35);
        Due.is("a full ROW with a FAULT", Due.read(Leagues.inARow(6), "u;u;u;u;u;u;u;" + STAYS + STAYS + STAYS.substring(21) + "p00;p00;"), -2012);
        OneBeatsBoth x = new OneBeatsBoth();
        Due.write(x, 0, "p00;");
        Due.write(x, 7, "p10;p20;");
        Due.is("SHELF 0", x.league(0), 1);
        Due.is("SHELF 7", x.league(7), 2);
        Due.is("SHELF 0 again", x.league(0), 1);
        Due.is("so many came", x.count(0), 4);
        Due.is("the last", x.one(3, 0), 0);
    }

    private static void promise2Refusals() {
        Doc.says("Promise 2: league", "-1, -11, -12 (no ROW of bytes).");
        OneBeatsBoth x = new OneBeatsBoth();
        x.keep(0, 1, 0, 0);
        x.row(1, 1, 0);
        x.row(2, 2, 0);
        Due.fill(x, 3, 1, 'l', '1', ';');
        Due.fill(x, 4, 2, 'l', '1', ';');
        Due.is("SHELF -1", x.league(-1), -1);
        Due.is("SHELF 8", x.league(8), -1);
        Due.is("the least", x.league(Integer.MIN_VALUE), -1);
        Due.is("the most", x.league(Integer.MAX_VALUE), -1);
        Due.is("nothing", x.league(5), -11);
        Due.is("one of PEOPLE", x.league(0), -12);
        Due.is("no shorts", x.league(1), -12);
        Due.is("no ints", x.league(2), -12);
        Due.is("shorts", x.league(3), -12);
        Due.is("ints", x.league(4), -12);
        Due.is("LAW stays", x.count(1), 2);
    }
}
