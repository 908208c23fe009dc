/** Counts the answers that are not as due, and tells them. */
final class Due {
    private static int asked = 0;
    private static int wrong = 0;
    /** The words of the document that are looked at. */
    private static String about = "";

    private Due() {
    }

    static void about(String words) {
        about = words.isEmpty() ? "" : words + ": ";
    }

    static int asked() {
        return asked;
    }

    static void is(String what, long got, long want) {
        asked++;
        if (got != want) {
            wrong++;
            System.out.println(about + what + " answered " + got + ", due is " + want);
        }
    }

    static void holds(String what, boolean got) {
        is(what, got ? 1 : 0, 1);
    }

    static void same(String what, String got, String want) {
        asked++;
        if (!got.equals(want)) {
            wrong++;
            System.out.println(about + what + " answered " + got + ", due is " + want);
        }
    }

    /** What element answers: its name behind "throws.", if it throws. */
    static String element(OneBeatsBoth x, int d, int i) {
        try {
            return "" + x.element(d, i);
        } catch (RuntimeException e) {
            return "throws." + e.getClass().getSimpleName();
        }
    }

    /** Puts a text into a SHELF, as a ROW of bytes. */
    static void write(OneBeatsBoth x, int d, String text) {
        x.row(d, 0, text.length());
        for (int i = 0; i < text.length(); i++) {
            x.put(d, i, text.charAt(i));
        }
    }

    /** Puts numbers into a SHELF, as a ROW of a SORT. */
    static void fill(OneBeatsBoth x, int d, int sort, int... cells) {
        x.row(d, sort, cells.length);
        for (int i = 0; i < cells.length; i++) {
            x.put(d, i, cells[i]);
        }
    }

    /** Reads a text by way of SHELF 7. */
    static int read(OneBeatsBoth x, String text) {
        write(x, 7, text);
        return x.league(7);
    }

    /** A new object with a league of a text, which has to be without FAULT. */
    static OneBeatsBoth of(String text) {
        OneBeatsBoth x = new OneBeatsBoth();
        if (read(x, text) < 0) {
            throw new IllegalStateException("no league: " + text);
        }
        return x;
    }

    /** All that can be seen of PEOPLE, LAW and SHELVES without a change. */
    static String seen(OneBeatsBoth x) {
        StringBuilder all = new StringBuilder();
        all.append("law ").append(x.count(1)).append(" people");
        for (int i = 0; i < x.count(0); i++) {
            for (int what = 0; what < 6; what++) {
                all.append(' ').append(x.one(i, what));
            }
            all.append(';');
        }
        for (int d = 0; d < 8; d++) {
            all.append(" shelf ").append(d).append(':');
            all.append(x.price(d)).append(',').append(x.toss(d));
            for (int i = 0; i <= 100; i++) {
                String cell = element(x, d, i);
                if (cell.charAt(0) == 't') {
                    break;
                }
                all.append(',').append(cell);
            }
        }
        return all.toString();
    }

    static void end(String name) {
        System.out.println(name + ": " + asked + " answers, " + wrong + " not as due");
        if (wrong != 0 || asked == 0) {
            System.exit(1);
        }
    }
}
