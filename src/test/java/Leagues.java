/** Leagues that several tests look at. */
final class Leagues {
    /** The matches of seven, by PAIRS. */
    static final int[][] MATCHES = matches();

    private Leagues() {
    }

    private static int[][] matches() {
        int[][] all = new int[21][];
        int m = 0;
        for (int i = 0; i < 7; i++) {
            for (int j = i + 1; j < 7; j++) {
                all[m++] = new int[] {i, j};
            }
        }
        return all;
    }

    /** So many PLAYERS, each of whom has BEATEN all behind him. */
    static OneBeatsBoth inARow(int n) {
        OneBeatsBoth x = new OneBeatsBoth();
        x.keep(0, 1, 0, 0);
        for (int i = 0; i < n; i++) {
            x.comes(0);
        }
        x.keep(0, 0, 0, 0);
        return x;
    }

    /** The ring of seven, LAWFUL by LAW 2: each has BEATEN those 1, 2 and 4 behind him. */
    static OneBeatsBoth seven(String people) {
        OneBeatsBoth x = Due.of(people);
        for (int i = 0; i < 7; i++) {
            x.beat(i, (i + 1) % 7);
            x.beat(i, (i + 2) % 7);
            x.beat(i, (i + 4) % 7);
        }
        return x;
    }

    static OneBeatsBoth seven() {
        return seven("p00;p00;p00;p00;p00;p00;p00;");
    }

    static OneBeatsBoth sevenOf(int kind, int figure) {
        String one = "p" + kind + figure + ";";
        return seven(one + one + one + one + one + one + one);
    }

    /** PLAYERS who have BEATEN those of these bits. */
    static OneBeatsBoth beating(int... bits) {
        OneBeatsBoth x = inARow(bits.length);
        for (int i = 0; i < bits.length; i++) {
            for (int j = 0; j < bits.length; j++) {
                if ((bits[i] >> j & 1) != 0) {
                    x.beat(i, j);
                }
            }
        }
        return x;
    }

    /** Seven, of whom the one of a KIND stands at a place, and has BEATEN so many. */
    static OneBeatsBoth withWins(int kind, int figure, int place, int wins) {
        StringBuilder text = new StringBuilder();
        for (int i = 0; i < 7; i++) {
            text.append(i == place ? "p" + kind + figure : "p00").append(';');
        }
        OneBeatsBoth x = Due.of(text.toString());
        int beaten = 0;
        for (int i = 0; i < 7; i++) {
            if (i != place && beaten++ < wins) {
                x.beat(place, i);
            } else if (i != place) {
                x.beat(i, place);
            }
        }
        return x;
    }

    static boolean hasBeaten(OneBeatsBoth x, int i, int j) {
        return (x.one(i, 3) >> j & 1) != 0;
    }

    /** Turns a match; who won it until then. */
    static int turn(OneBeatsBoth x, int[] match) {
        int winner = hasBeaten(x, match[0], match[1]) ? match[0] : match[1];
        int loser = match[0] + match[1] - winner;
        Due.is("a match is turned", x.beat(loser, winner), 1);
        return winner;
    }

    static String bits(OneBeatsBoth x) {
        StringBuilder all = new StringBuilder();
        for (int i = 0; i < x.count(0); i++) {
            all.append(x.one(i, 3)).append(' ');
        }
        return all.toString();
    }
}
