/** Promises 28 to 34: shelves. */
public final class ShelfTests {
    private static final int LEAST = Integer.MIN_VALUE;
    private static final int MOST = Integer.MAX_VALUE;

    public static void main(String[] args) {
        promise28Keep();
        promise29Row();
        promise30Put();
        promise31Element();
        promise32Copy();
        promise32Refusals();
        promise33Price();
        promise34Toss();
        Due.end("ShelfTests");
    }

    private static void promise28Keep() {
        OneBeatsBoth x = new OneBeatsBoth();
        for (int d = 0; d < 8; d++) {
            Due.is("one of PEOPLE", x.keep(d, 1, d, d + 1), 0);
        }
        for (int d = 0; d < 7; d++) {
            x.comes(d);
            Due.is("his KIND", x.one(d, 0), d);
            Due.is("his FIGURE", x.one(d, 1), d + 1);
        }
        Due.is("another one", x.keep(3, 1, 7, 0), 0);
        Due.is("another one's PRICE", x.price(3), 12);
        Due.is("who came from there", x.one(3, 0), 3);
        Due.is("nothing", x.keep(3, 0, 0, 0), 0);
        Due.is("nothing is held", x.price(3), -11);
        Due.is("nothing, the others do not matter", x.keep(4, 0, -9, 99), 0);
        Due.is("nothing is held", x.price(4), -11);
        x.row(5, 0, 3);
        Due.is("one in a ROW's place", x.keep(5, 1, 0, 9), 0);
        Due.is("the ROW is there no more", x.put(5, 0, 0), -12);
        Due.is("his PRICE", x.price(5), 3);
        x.row(6, 0, 3);
        Due.is("nothing in a ROW's place", x.keep(6, 0, 0, 0), 0);
        Due.is("the ROW is there no more", x.put(6, 0, 0), -11);
        x.row(0, 2, 1);
        String before = Due.seen(x);
        int[][] wrong = {
            {-1, 1, 0, 0}, {8, 1, 0, 0}, {8, 0, 0, 0}, {-1, 0, 0, 0}, {0, 2, 0, 0}, {0, -1, 0, 0},
            {0, 1, 8, 0}, {0, 1, -1, 0}, {0, 1, 0, 10}, {0, 1, 0, -1}, {LEAST, MOST, LEAST, MOST}
        };
        for (int[] w : wrong) {
            Due.is("not as told", x.keep(w[0], w[1], w[2], w[3]), -1);
        }
        Due.same("refused calls", Due.seen(x), before);
    }

    private static void promise29Row() {
        OneBeatsBoth x = new OneBeatsBoth();
        for (int sort = 0; sort < 3; sort++) {
            Due.is("a ROW of 100", x.row(sort, sort, 100), 0);
            Due.same("the last is 0", Due.element(x, sort, 99), "0");
            Due.same("no more", Due.element(x, sort, 100), "throws.IllegalStateException");
            Due.is("a ROW of none", x.row(sort, sort, 0), 0);
            Due.same("nothing in it", Due.element(x, sort, 0), "throws.IllegalStateException");
            Due.is("a ROW is held", x.price(sort), -12);
        }
        Due.fill(x, 3, 2, 5, 6);
        Due.is("a new ROW", x.row(3, 2, 2), 0);
        Due.same("0 at first", Due.element(x, 3, 0), "0");
        Due.same("0 at first", Due.element(x, 3, 1), "0");
        x.keep(4, 1, 0, 0);
        Due.is("a ROW in one's place", x.row(4, 0, 1), 0);
        Due.is("he is there no more", x.price(4), -12);
        x.put(4, 0, 7);
        String before = Due.seen(x);
        int[][] wrong = {{-1, 0, 1}, {8, 0, 1}, {4, -1, 1}, {4, 3, 1}, {4, 0, 101}, {4, 0, MOST}, {8, 0, -1}, {4, 3, -1}};
        for (int[] w : wrong) {
            Due.is("not as told", x.row(w[0], w[1], w[2]), -1);
        }
        Due.is("below 0", x.row(4, 0, -1), -14);
        Due.is("far below 0", x.row(4, 2, LEAST), -14);
        Due.same("refused calls", Due.seen(x), before);
    }

    private static void promise30Put() {
        OneBeatsBoth x = new OneBeatsBoth();
        int[] put = {5, -5, 127, 128, 255, 256, -129, 32767, 32768, 65535, 65536, -32769, MOST, LEAST};
        int[][] due = {
            {5, -5, 127, -128, -1, 0, 127, -1, 0, -1, 0, -1, -1, 0},
            {5, -5, 127, 128, 255, 256, -129, 32767, -32768, -1, 0, 32767, -1, 0},
            put
        };
        for (int sort = 0; sort < 3; sort++) {
            x.row(1, sort, put.length);
            for (int i = 0; i < put.length; i++) {
                Due.is("put", x.put(1, i, put[i]), 0);
            }
            for (int i = 0; i < put.length; i++) {
                Due.same(put[i] + " in SORT " + sort, Due.element(x, 1, i), "" + due[sort][i]);
            }
        }
        x.keep(2, 1, 0, 0);
        String before = Due.seen(x);
        Due.is("no SHELF", x.put(8, 0, 1), -1);
        Due.is("no SHELF", x.put(-1, 0, 1), -1);
        Due.is("nothing", x.put(3, 0, 1), -11);
        Due.is("nothing, and no place", x.put(3, -1, 1), -11);
        Due.is("one of PEOPLE", x.put(2, 0, 1), -12);
        Due.is("no place", x.put(1, -1, 1), -13);
        Due.is("no place", x.put(1, put.length, 1), -13);
        Due.is("no place", x.put(1, LEAST, 1), -13);
        Due.is("no place", x.put(1, MOST, 1), -13);
        Due.same("refused calls", Due.seen(x), before);
        x.row(1, 0, 0);
        Due.is("no place in a ROW of none", x.put(1, 0, 1), -13);
    }

    private static void promise31Element() {
        OneBeatsBoth x = new OneBeatsBoth();
        Due.fill(x, 0, 2, 4, -7, MOST);
        Due.is("the first", x.element(0, 0), 4);
        Due.is("the second", x.element(0, 1), -7);
        Due.is("the last", x.element(0, 2), MOST);
        x.keep(1, 1, 0, 0);
        String argument = "throws.IllegalArgumentException";
        String state = "throws.IllegalStateException";
        Due.same("no SHELF", Due.element(x, -1, 0), argument);
        Due.same("no SHELF", Due.element(x, 8, 0), argument);
        Due.same("no SHELF, and no place", Due.element(x, LEAST, -1), argument);
        Due.same("nothing", Due.element(x, 2, 0), state);
        Due.same("one of PEOPLE", Due.element(x, 1, 0), state);
        Due.same("no place", Due.element(x, 0, -1), state);
        Due.same("no place", Due.element(x, 0, 3), state);
        Due.same("no place", Due.element(x, 0, MOST), state);
        Due.same("no place", Due.element(x, 0, LEAST), state);
        Due.is("the first stays", x.element(0, 0), 4);
    }

    private static String cells(OneBeatsBoth x, int d, int n) {
        StringBuilder all = new StringBuilder();
        for (int i = 0; i < n; i++) {
            all.append(Due.element(x, d, i)).append(' ');
        }
        return all.toString();
    }

    private static void promise32Copy() {
        OneBeatsBoth x = new OneBeatsBoth();
        for (int sort = 0; sort < 3; sort++) {
            Due.fill(x, 0, sort, 1, 2, 3, 4, 5);
            Due.fill(x, 1, sort, 11, 12, 13);
            Due.is("two", x.copy(0, 3, 1, 1, 2), 2);
            Due.same("where they came", cells(x, 1, 3), "11 4 5 ");
            Due.same("where they came from", cells(x, 0, 5), "1 2 3 4 5 ");
            Due.is("onward in one ROW", x.copy(0, 0, 0, 1, 4), 4);
            Due.same("as they were", cells(x, 0, 5), "1 1 2 3 4 ");
            Due.is("back in one ROW", x.copy(0, 2, 0, 0, 3), 3);
            Due.same("as they were", cells(x, 0, 5), "2 3 4 3 4 ");
            Due.is("all", x.copy(1, 0, 0, 2, 3), 3);
            Due.same("all of them", cells(x, 0, 5), "2 3 11 4 5 ");
            Due.is("none", x.copy(0, 0, 1, 0, 0), 0);
            Due.is("none, from behind the last", x.copy(0, 5, 1, 3, 0), 0);
            Due.same("none came", cells(x, 1, 3), "11 4 5 ");
            x.put(0, 0, 9);
            Due.same("ROWS stay apart", cells(x, 1, 3), "11 4 5 ");
        }
    }

    private static void promise32Refusals() {
        OneBeatsBoth x = new OneBeatsBoth();
        Due.fill(x, 0, 0, 1, 2, 3);
        Due.fill(x, 1, 0, 4, 5);
        Due.fill(x, 2, 1, 6, 7);
        Due.fill(x, 3, 2, 6, 7);
        x.keep(4, 1, 0, 0);
        String before = Due.seen(x);
        int[][] wrong = {
            {-1, 0, 1, 0, 1, -1}, {0, 0, 8, 0, 1, -1}, {8, 0, -1, 0, 1, -1}, {5, 0, 8, 0, 1, -1}, {8, 0, 5, 0, 1, -1},
            {5, 0, 0, 0, 1, -11}, {0, 0, 5, 0, 1, -11}, {5, 0, 4, 0, 1, -11}, {4, 0, 5, 0, 1, -11},
            {4, 0, 0, 0, 1, -12}, {0, 0, 4, 0, 1, -12}, {4, 0, 4, 0, 0, -12}, {0, 0, 2, 0, 1, -12}, {2, 0, 3, 0, 1, -12},
            {0, 0, 2, 9, 1, -12},
            {0, 0, 1, 0, -1, -13}, {0, -1, 1, 0, 1, -13}, {0, 0, 1, -1, 1, -13}, {0, 3, 1, 0, 1, -13},
            {0, 2, 1, 0, 2, -13}, {0, 0, 1, 2, 1, -13}, {0, 0, 1, 1, 2, -13}, {0, 0, 1, 0, 3, -13},
            {0, 4, 1, 0, 0, -13}, {0, 0, 1, 3, 0, -13}, {0, -1, 1, 0, 0, -13},
            {0, MOST, 1, 0, 1, -13}, {0, 0, 1, MOST, 1, -13}, {0, 1, 1, 1, MOST, -13}, {0, LEAST, 1, 0, LEAST, -13},
            {0, MOST, 1, MOST, MOST, -13}, {0, 0, 1, 0, LEAST, -13}
        };
        for (int[] w : wrong) {
            Due.is("copy " + w[0] + " " + w[1] + " " + w[2] + " " + w[3] + " " + w[4], x.copy(w[0], w[1], w[2], w[3], w[4]), w[5]);
        }
        Due.same("refused calls", Due.seen(x), before);
    }

    private static void promise33Price() {
        OneBeatsBoth x = new OneBeatsBoth();
        int[][] due = {{3, 3, 3}, {3, 4, 12}, {1, 1, 1}, {6, 6, 6}, {2, 3, 11}, {1, 2, 10}, {11, 11, 11}, {12, 12, 12}};
        int[] figures = {0, 1, 9};
        for (int kind = 0; kind < 8; kind++) {
            for (int f = 0; f < 3; f++) {
                x.keep(0, 1, kind, figures[f]);
                Due.is("PRICE of KIND " + kind + " FIGURE " + figures[f], x.price(0), due[kind][f]);
            }
        }
        x.row(1, 0, 1);
        Due.is("no SHELF", x.price(8), -1);
        Due.is("no SHELF", x.price(-1), -1);
        Due.is("nothing", x.price(2), -11);
        Due.is("a ROW", x.price(1), -12);
    }

    private static void promise34Toss() {
        OneBeatsBoth x = new OneBeatsBoth();
        int[] due = {7, 7, -15, 7, 7, 107, 211, 7};
        for (int kind = 0; kind < 8; kind++) {
            x.keep(0, 1, kind, 7);
            Due.is("FAILURE of KIND " + kind, x.toss(0), due[kind]);
            Due.is("he is there still", x.toss(0), due[kind]);
            x.keep(0, 1, kind, 0);
            Due.is("FIGURE 0 of KIND " + kind, x.toss(0), -15);
        }
        x.row(1, 0, 1);
        Due.is("no SHELF", x.toss(8), -1);
        Due.is("no SHELF", x.toss(-1), -1);
        Due.is("nothing", x.toss(2), -11);
        Due.is("a ROW", x.toss(1), -12);
    }
}
