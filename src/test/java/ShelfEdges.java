/** SHELVES, and promises 28 to 34, at their edges. */
final class ShelfEdges {
    private static final int LEAST = Integer.MIN_VALUE;
    private static final int MOST = Integer.MAX_VALUE;
    private static final int[] FAR = {LEAST, LEAST + 1, -256, -8, -1, 8, 9, 256, MOST};
    private static final String NO_SHELF = "throws.IllegalArgumentException";
    private static final String NO_PLACE = "throws.IllegalStateException";

    private ShelfEdges() {
    }

    static void run() {
        shelves();
        rows();
        lowestBits();
        promise28();
        promise29();
        promise30();
        promise31();
        promise32();
        copiedPlaces();
        promise32Refusals();
        promise33();
        promise34();
        failures();
    }

    private static void shelves() {
        Doc.says("Terms", "SHELVES 0 .. 7 each hold nothing (at first), one of PEOPLE, a ROW.");
        for (int d = 0; d <= 7; d++) {
            OneBeatsBoth x = new OneBeatsBoth();
            Due.is("nothing at first", x.price(d), -11);
            Due.is("one of PEOPLE", x.keep(d, 1, 0, 0), 0);
            Due.is("his PRICE", x.price(d), 3);
            Due.is("he is no ROW", x.put(d, 0, 0), -12);
            Due.is("a ROW", x.row(d, 0, 1), 0);
            Due.is("its place", x.put(d, 0, 0), 0);
            Due.is("it is nobody", x.price(d), -12);
            Due.is("one of PEOPLE again", x.keep(d, 1, 7, 0), 0);
            Due.is("his PRICE", x.price(d), 12);
            Due.is("nothing", x.keep(d, 0, 0, 0), 0);
            Due.is("it is nobody", x.price(d), -11);
            Due.is("it is no ROW", x.put(d, 0, 0), -11);
            x.row(d, 0, 1);
            Due.is("nothing for a ROW", x.keep(d, 0, 0, 0), 0);
            Due.is("it is no ROW", x.put(d, 0, 0), -11);
            for (int e = 0; e <= 7; e++) {
                Due.is("nothing on all SHELVES", x.toss(e), -11);
            }
        }
        OneBeatsBoth x = new OneBeatsBoth();
        for (int far : FAR) {
            Due.is("no SHELF " + far, x.price(far), -1);
            Due.is("no SHELF " + far, x.keep(far, 0, 0, 0), -1);
            Due.is("no SHELF " + far, x.row(far, 0, 0), -1);
        }
    }

    private static void rows() {
        Doc.says("Terms", "A ROW has a SORT (0 bytes, 1 shorts, 2 ints) and 0 .. 100 elements, 0 at first;");
        int[] sizes = {0, 1, 2, 99, 100};
        for (int sort = 0; sort <= 2; sort++) {
            for (int size : sizes) {
                OneBeatsBoth x = new OneBeatsBoth();
                Due.fill(x, 3, sort, 7, 7);
                Due.is("a ROW", x.row(3, sort, size), 0);
                for (int i = 0; i < size; i++) {
                    Due.same("0 at first", Due.element(x, 3, i), "0");
                }
                Due.same("no place behind", Due.element(x, 3, size), NO_PLACE);
                Due.same("no place ahead", Due.element(x, 3, -1), NO_PLACE);
            }
        }
        OneBeatsBoth x = new OneBeatsBoth();
        Due.is("SORT -1", x.row(3, -1, 1), -1);
        Due.is("SORT 3", x.row(3, 3, 1), -1);
        Due.is("101 elements", x.row(3, 0, 101), -1);
        Due.is("-1 elements", x.row(3, 0, -1), -14);
        Due.is("nothing came of it", x.price(3), -11);
    }

    /** What becomes of a number in bytes, in shorts, in ints. */
    private static void becomes(int number, int asByte, int asShort) {
        int[] due = {asByte, asShort, number};
        for (int sort = 0; sort <= 2; sort++) {
            OneBeatsBoth x = new OneBeatsBoth();
            x.row(0, sort, 100);
            for (int place = 0; place < 100; place += 99) {
                Due.is("it is put in", x.put(0, place, number), 0);
                Due.same(number + " in SORT " + sort, Due.element(x, 0, place), "" + due[sort]);
            }
            Due.same("its neighbour", Due.element(x, 0, 1), "0");
            Due.same("its neighbour", Due.element(x, 0, 98), "0");
        }
    }

    private static void lowestBits() {
        Doc.says("Terms", "what is put in keeps its lowest bits.");
        becomes(0, 0, 0);
        becomes(1, 1, 1);
        becomes(-1, -1, -1);
        becomes(127, 127, 127);
        becomes(128, -128, 128);
        becomes(-128, -128, -128);
        becomes(-129, 127, -129);
        becomes(255, -1, 255);
        becomes(256, 0, 256);
        becomes(-256, 0, -256);
        becomes(-257, -1, -257);
        becomes(32767, -1, 32767);
        becomes(32768, 0, -32768);
        becomes(-32768, 0, -32768);
        becomes(-32769, -1, 32767);
        becomes(65535, -1, -1);
        becomes(65536, 0, 0);
        becomes(-65536, 0, 0);
        becomes(65536 + 128, -128, 128);
        becomes(MOST, -1, -1);
        becomes(MOST - 1, -2, -2);
        becomes(LEAST, 0, 0);
        becomes(LEAST + 1, 1, 1);
    }

    private static void promise28() {
        Doc.says("Promise 28: keep", "SHELF d gets: what = 0 nothing (the others do not matter); 1 one of KIND k with a FIGURE: 0. -1.");
        OneBeatsBoth x = new OneBeatsBoth();
        for (int other : new int[] {-1, 8, 10, LEAST, MOST}) {
            x.keep(0, 1, 0, 0);
            Due.is("nothing, whatever KIND and FIGURE", x.keep(0, 0, other, other), 0);
            Due.is("nothing is there", x.price(0), -11);
        }
        for (int d = 0; d <= 7; d += 7) {
            Due.is("the least", x.keep(d, 1, 0, 0), 0);
            Due.is("his PRICE", x.price(d), 3);
            Due.is("the greatest", x.keep(d, 1, 7, 9), 0);
            Due.is("his PRICE", x.price(d), 12);
            Due.is("his FAILURE", x.toss(d), 9);
            for (int wrong : new int[] {-1, 8, LEAST, MOST}) {
                Due.is("KIND " + wrong, x.keep(d, 1, wrong, 0), -1);
                Due.is("FIGURE " + (wrong == 8 ? 10 : wrong), x.keep(d, 1, 0, wrong == 8 ? 10 : wrong), -1);
                Due.is("what " + (wrong == 8 ? 2 : wrong), x.keep(d, wrong == 8 ? 2 : wrong, 0, 0), -1);
                Due.is("SHELF " + wrong, x.keep(wrong, 1, 0, 0), -1);
                Due.is("SHELF " + wrong + ", nothing", x.keep(wrong, 0, 0, 0), -1);
            }
            Due.is("he is there still", x.toss(d), 9);
        }
    }

    private static void promise29() {
        Doc.says("Promise 29: row", "SHELF d gets a ROW of a SORT: 0. -1 (n above 100); -14.");
        OneBeatsBoth x = new OneBeatsBoth();
        for (int d = 0; d <= 7; d += 7) {
            for (int sort = 0; sort <= 2; sort += 2) {
                Due.is("0 elements", x.row(d, sort, 0), 0);
                Due.is("no place", x.put(d, 0, 0), -13);
                Due.is("100 elements", x.row(d, sort, 100), 0);
                Due.is("the last place", x.put(d, 99, 5), 0);
                Due.is("no place", x.put(d, 100, 5), -13);
                Due.is("101 elements", x.row(d, sort, 101), -1);
                Due.is("the most elements", x.row(d, sort, MOST), -1);
                Due.is("-1 elements", x.row(d, sort, -1), -14);
                Due.is("the least elements", x.row(d, sort, LEAST), -14);
                Due.same("the ROW stays", Due.element(x, d, 99), "5");
            }
        }
        for (int wrong : new int[] {-1, 3, LEAST, MOST}) {
            Due.is("SORT " + wrong, x.row(0, wrong, 1), -1);
            Due.is("SORT " + wrong + ", -1 elements", x.row(0, wrong, -1), -1);
            Due.is("SHELF " + (wrong == 3 ? 8 : wrong), x.row(wrong == 3 ? 8 : wrong, 0, 1), -1);
            Due.is("SHELF " + (wrong == 3 ? 8 : wrong) + ", -1 elements", x.row(wrong == 3 ? 8 : wrong, 0, -1), -1);
        }
        Due.same("the ROW stays", Due.element(x, 0, 99), "5");
    }

    private static void promise30() {
        Doc.says("Promise 30: put", "Element i of the ROW becomes v: 0. -1, -11, -12, -13.");
        OneBeatsBoth x = new OneBeatsBoth();
        x.keep(1, 1, 0, 0);
        for (int size : new int[] {1, 2, 100}) {
            x.row(0, 2, size);
            Due.is("the first", x.put(0, 0, 3), 0);
            Due.is("the last", x.put(0, size - 1, 4), 0);
            Due.same("the last", Due.element(x, 0, size - 1), "4");
            for (int i : new int[] {-1, size, LEAST, MOST}) {
                Due.is("place " + i + " of " + size, x.put(0, i, 5), -13);
                Due.is("nothing, place " + i, x.put(2, i, 5), -11);
                Due.is("one of PEOPLE, place " + i, x.put(1, i, 5), -12);
                Due.is("no SHELF, place " + i, x.put(8, i, 5), -1);
                Due.is("no SHELF, place " + i, x.put(-1, i, 5), -1);
            }
            Due.same("the last stays", Due.element(x, 0, size - 1), "4");
        }
        x.row(0, 2, 0);
        Due.is("an empty ROW", x.put(0, 0, 5), -13);
    }

    private static void promise31() {
        Doc.says("Promise 31: element", "Element i of the ROW. IllegalArgumentException: no such SHELF; IllegalStateException: no ROW, no such place.");
        OneBeatsBoth x = new OneBeatsBoth();
        x.keep(1, 1, 0, 0);
        for (int size : new int[] {0, 1, 100}) {
            x.row(0, 2, size);
            x.row(7, 0, size);
            for (int i : new int[] {-1, size, size + 1, LEAST, MOST}) {
                Due.same("place " + i + " of " + size, Due.element(x, 0, i), NO_PLACE);
                Due.same("place " + i + " of " + size, Due.element(x, 7, i), NO_PLACE);
                Due.same("nothing, place " + i, Due.element(x, 2, i), NO_PLACE);
                Due.same("one of PEOPLE, place " + i, Due.element(x, 1, i), NO_PLACE);
                Due.same("no SHELF, place " + i, Due.element(x, 8, i), NO_SHELF);
                Due.same("no SHELF, place " + i, Due.element(x, -1, i), NO_SHELF);
            }
            for (int i = 0; i < size; i++) {
                Due.same("place " + i + " of " + size, Due.element(x, 0, i), "0");
            }
        }
        for (int far : FAR) {
            Due.same("no SHELF " + far, Due.element(x, far, 0), NO_SHELF);
        }
        x.put(0, 99, LEAST);
        Due.is("the least, as a long", x.element(0, 99), -2147483648L);
        x.put(0, 99, MOST);
        Due.is("the most, as a long", x.element(0, 99), 2147483647L);
        x.put(7, 99, 200);
        Due.is("a byte below 0", x.element(7, 99), -56L);
    }

    private static void promise32() {
        Doc.says("Promise 32: copy", "n elements of the ROW in SHELF d from i on come to that in SHELF e from j on: n.");
        for (int sort = 0; sort <= 2; sort++) {
            OneBeatsBoth x = new OneBeatsBoth();
            x.row(0, sort, 100);
            x.row(7, sort, 100);
            for (int i = 0; i < 100; i++) {
                x.put(0, i, i - 50);
            }
            Due.is("all of them", x.copy(0, 0, 7, 0, 100), 100);
            same(x, 7, 0, -50, 100);
            Due.is("onward in one ROW, all but one", x.copy(7, 0, 7, 1, 99), 99);
            same(x, 7, 1, -50, 99);
            Due.same("the first stays", Due.element(x, 7, 0), "-50");
            Due.is("back in one ROW, all but one", x.copy(7, 1, 7, 0, 99), 99);
            same(x, 7, 0, -50, 99);
            Due.same("the last stays", Due.element(x, 7, 99), "48");
            Due.is("on itself", x.copy(0, 0, 0, 0, 100), 100);
            same(x, 0, 0, -50, 100);
            Due.is("the last to the first", x.copy(0, 99, 7, 0, 1), 1);
            Due.same("it is there", Due.element(x, 7, 0), "49");
            Due.is("the first to the last", x.copy(0, 0, 7, 99, 1), 1);
            Due.same("it is there", Due.element(x, 7, 99), "-50");
            Due.same("beside it nothing came", Due.element(x, 7, 98), "48");
            same(x, 0, 0, -50, 100);
        }
    }

    /** From i on n elements count on from the first. */
    private static void same(OneBeatsBoth x, int d, int i, int first, int n) {
        boolean all = true;
        for (int k = 0; k < n; k++) {
            all &= Due.element(x, d, i + k).equals("" + (first + k));
        }
        Due.holds("the elements of SHELF " + d, all);
    }

    /** Every i, j and n from -1 to one too many. */
    private static void copiedPlaces() {
        Doc.says("Promise 32: copy", "-13 (n below 0, too).");
        for (int from = 0; from <= 3; from++) {
            for (int to = 0; to <= 2; to++) {
                for (int n = -2; n <= 4; n++) {
                    OneBeatsBoth x = new OneBeatsBoth();
                    x.row(0, 2, from);
                    x.row(1, 2, to);
                    for (int i = -1; i <= from + 1; i++) {
                        for (int j = -1; j <= to + 1; j++) {
                            boolean is = n >= 0 && i >= 0 && j >= 0 && i + n <= from && j + n <= to;
                            Due.is(n + " from " + i + " of " + from + " to " + j + " of " + to, x.copy(0, i, 1, j, n), is ? n : -13);
                        }
                    }
                }
            }
        }
        OneBeatsBoth x = new OneBeatsBoth();
        x.row(0, 2, 100);
        x.row(1, 2, 100);
        int[][] wrong = {
            {0, 0, 101}, {1, 0, 100}, {0, 1, 100}, {100, 0, 1}, {0, 100, 1}, {0, 0, -1}, {50, 50, -1}, {0, 0, MOST}, {0, 0, LEAST},
            {MOST, 0, 1}, {0, MOST, 1}, {MOST, MOST, MOST}, {1, 1, MOST}, {LEAST, 0, 1}, {0, LEAST, 1}, {LEAST, LEAST, LEAST},
            {MOST, 0, LEAST}, {101, 0, 0}, {0, 101, 0}, {-1, 0, 0}, {0, -1, 0}, {MOST, 0, 0}, {0, MOST, 0}
        };
        for (int[] w : wrong) {
            Due.is(w[2] + " from " + w[0] + " to " + w[1], x.copy(0, w[0], 1, w[1], w[2]), -13);
            Due.is(w[2] + " from " + w[0] + " to " + w[1] + " in one ROW", x.copy(1, w[0], 1, w[1], w[2]), -13);
        }
        Due.is("none from behind the last", x.copy(0, 100, 1, 100, 0), 0);
    }

    private static void promise32Refusals() {
        Doc.says("Promise 32: copy", "-1, -11 (either), -12 (no ROWS of one SORT), -13");
        OneBeatsBoth x = new OneBeatsBoth();
        Due.fill(x, 0, 0, 1);
        Due.fill(x, 1, 1, 2);
        Due.fill(x, 2, 2, 3);
        x.keep(3, 1, 0, 0);
        int[] sorts = {0, 1, 2};
        for (int d : sorts) {
            for (int e : sorts) {
                Due.is("SORT " + d + " to SORT " + e, x.copy(d, 0, e, 0, 1), d == e ? 1 : -12);
                Due.is("none of SORT " + d + " to SORT " + e, x.copy(d, 0, e, 0, 0), d == e ? 0 : -12);
            }
            for (int far : FAR) {
                Due.is("from no SHELF", x.copy(far, 0, d, 0, 1), -1);
                Due.is("to no SHELF", x.copy(d, 0, far, 0, 1), -1);
            }
            Due.is("from nothing", x.copy(4, 0, d, 0, 1), -11);
            Due.is("to nothing", x.copy(d, 0, 4, 0, 1), -11);
            Due.is("from one of PEOPLE", x.copy(3, 0, d, 0, 1), -12);
            Due.is("to one of PEOPLE", x.copy(d, 0, 3, 0, 1), -12);
        }
        Due.is("one of PEOPLE on himself", x.copy(3, 0, 3, 0, 0), -12);
        Due.is("nothing on itself", x.copy(4, 0, 4, 0, 0), -11);
    }

    private static void promise33() {
        Doc.says("Promise 33: price", "PRICE of the one on SHELF d. -1, -11, -12 (a ROW).");
        int[][] due = {{3, 3}, {3, 12}, {1, 1}, {6, 6}, {2, 11}, {1, 10}, {11, 11}, {12, 12}};
        OneBeatsBoth x = new OneBeatsBoth();
        for (int kind = 0; kind <= 7; kind++) {
            x.keep(0, 1, kind, 0);
            x.keep(7, 1, kind, 9);
            Due.is("KIND " + kind + " FIGURE 0", x.price(0), due[kind][0]);
            Due.is("KIND " + kind + " FIGURE 9", x.price(7), due[kind][1]);
        }
        for (int far : FAR) {
            Due.is("no SHELF " + far, x.price(far), -1);
        }
        x.row(0, 0, 0);
        Due.is("nothing", x.price(1), -11);
        Due.is("an empty ROW", x.price(0), -12);
    }

    private static void promise34() {
        Doc.says("Promise 34: toss", "The FAILURE of the one on SHELF d is thrown, and caught: its FIGURE; of NOVICE ones 100 more; of PRIEST ones "
            + "200 plus their PRICE, in place of all that (FIGURE, too).");
        OneBeatsBoth x = new OneBeatsBoth();
        int[] more = {0, 0, 0, 0, 0, 100, 0, 0};
        for (int kind = 0; kind <= 7; kind++) {
            for (int figure = 1; figure <= 9; figure++) {
                x.keep(7, 1, kind, figure);
                int due = kind == 6 ? 211 : figure + more[kind];
                Due.is("KIND " + kind + " FIGURE " + figure, x.toss(7), kind == 2 ? -15 : due);
            }
        }
    }

    private static void failures() {
        Doc.says("Promise 34: toss", "-1, -11, -12 (a ROW); -15: PAID ones, and any with FIGURE 0, have none.");
        OneBeatsBoth x = new OneBeatsBoth();
        for (int kind = 0; kind <= 7; kind++) {
            x.keep(0, 1, kind, 0);
            Due.is("KIND " + kind + " FIGURE 0", x.toss(0), -15);
            x.keep(0, 1, kind, 1);
            Due.is("KIND " + kind + " FIGURE 1", x.toss(0), kind == 2 ? -15 : kind == 5 ? 101 : kind == 6 ? 211 : 1);
        }
        x.keep(0, 1, 2, 9);
        Due.is("PAID, FIGURE 9", x.toss(0), -15);
        Due.is("he is there still", x.price(0), 1);
        for (int far : FAR) {
            Due.is("no SHELF " + far, x.toss(far), -1);
        }
        x.row(0, 0, 0);
        Due.is("nothing", x.toss(1), -11);
        Due.is("an empty ROW", x.toss(0), -12);
    }
}
