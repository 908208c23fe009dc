import java.math.BigInteger;
import java.util.ArrayList;
import java.util.List;

/**
 * The document once more, in its plainest and slowest form: who has beaten whom as a table, every
 * question by looking at all there is. It shares nothing with the program, so that both can be
 * held against each other.
 */
final class Model {
    /** A league: PEOPLE as kind and figure, a table of who has beaten whom, a law. */
    static final class State {
        final List<int[]> people = new ArrayList<>();
        boolean[][] won = new boolean[0][0];
        int law = 2;

        State twin() {
            State other = new State();
            other.people.addAll(people);
            other.law = law;
            other.won = new boolean[won.length][];
            for (int i = 0; i < won.length; i++) {
                other.won[i] = won[i].clone();
            }
            return other;
        }

        int size() {
            return people.size();
        }

        State with(int kind, int figure) {
            State other = twin();
            other.people.add(new int[] {kind, figure});
            int n = other.size();
            other.won = new boolean[n][n];
            for (int i = 0; i < n - 1; i++) {
                for (int j = 0; j < n - 1; j++) {
                    other.won[i][j] = won[i][j];
                }
                other.won[i][n - 1] = true;
            }
            return other;
        }

        State without(int gone) {
            State other = new State();
            other.law = law;
            List<Integer> rest = new ArrayList<>();
            for (int i = 0; i < size(); i++) {
                if (i != gone) {
                    rest.add(i);
                    other.people.add(people.get(i));
                }
            }
            other.won = new boolean[rest.size()][rest.size()];
            for (int i = 0; i < rest.size(); i++) {
                for (int j = 0; j < rest.size(); j++) {
                    other.won[i][j] = won[rest.get(i)][rest.get(j)];
                }
            }
            return other;
        }

        void beats(int i, int j) {
            won[i][j] = true;
            won[j][i] = false;
        }

        int wins(int i) {
            int w = 0;
            for (boolean b : won[i]) {
                w += b ? 1 : 0;
            }
            return w;
        }

        boolean counts(int i) {
            int f = people.get(i)[1];
            int w = wins(i);
            switch (people.get(i)[0]) {
                case 1: return w <= f;
                case 4: return w <= f || w % 2 != 0;
                case 5: return w >= f;
                case 6: return false;
                default: return true;
            }
        }

        boolean masters(int m, int i, int j) {
            return won[m][i] && won[m][j] && counts(m);
        }

        boolean mastered(int i, int j) {
            for (int m = 0; m < size(); m++) {
                if (masters(m, i, j)) {
                    return true;
                }
            }
            return false;
        }

        boolean lawful() {
            for (int i = 0; i < size(); i++) {
                if (law == 1 && !mastered(i, i)) {
                    return false;
                }
                for (int j = 0; law == 2 && j < size(); j++) {
                    if (i != j && !mastered(i, j)) {
                        return false;
                    }
                }
            }
            return true;
        }

        List<int[]> pairs() {
            List<int[]> pairs = new ArrayList<>();
            for (int i = 0; i < size(); i++) {
                for (int j = i + 1; j < size(); j++) {
                    pairs.add(new int[] {i, j});
                }
            }
            return pairs;
        }

        State turned(int[]... matches) {
            State other = twin();
            for (int[] m : matches) {
                if (other.won[m[0]][m[1]]) {
                    other.beats(m[1], m[0]);
                } else {
                    other.beats(m[0], m[1]);
                }
            }
            return other;
        }

        /** All ways to have played. */
        List<State> all() {
            List<State> all = new ArrayList<>();
            all.add(twin());
            for (int[] pair : pairs()) {
                List<State> more = new ArrayList<>();
                for (State s : all) {
                    s.beats(pair[0], pair[1]);
                    more.add(s);
                    more.add(s.turned(pair));
                }
                all = more;
            }
            return all;
        }
    }

    static int skill(int kind, int f) {
        switch (kind) {
            case 1: return 2 * f + 2;
            case 3: case 6: return f + 4;
            case 4: return 2 * f + 1;
            case 5: return 1;
            case 7: return f + 10;
            default: return f + 1;
        }
    }

    static int price(int kind, int f) {
        switch (kind) {
            case 1: return 3 + f;
            case 2: return 1;
            case 3: return 6;
            case 4: return 2 + f;
            case 5: return f + 1;
            case 6: return 11;
            case 7: return 12;
            default: return 3;
        }
    }

    State now = new State();
    State kept = null;
    /** Nothing, an int[] {kind, figure}, or a List of Long with its sort in sorts. */
    final Object[] shelves = new Object[8];
    final int[] sorts = new int[8];

    private int skillOf(State s, int i) {
        return skill(s.people.get(i)[0], s.people.get(i)[1]);
    }

    private boolean in(int i) {
        return i >= 0 && i < now.size();
    }

    private boolean both(int i, int j) {
        return in(i) && in(j) && i != j;
    }

    private static boolean shelf(int d) {
        return d >= 0 && d <= 7;
    }

    @SuppressWarnings("unchecked")
    private List<Long> row(int d) {
        return shelves[d] instanceof List ? (List<Long>) shelves[d] : null;
    }

    int league(int d) {
        if (!shelf(d)) return -1;
        if (shelves[d] == null) return -11;
        if (row(d) == null || sorts[d] != 0) return -12;
        StringBuilder text = new StringBuilder();
        for (long b : row(d)) {
            text.append((char) (b & 255));
        }
        String t = text.toString();
        // The longest beginning with which a LEAGUE can go on.
        String whole = "(p[0-9][0-9];|w[0-9][0-9];|l[0-9];|u;)*";
        String ending = "(p|p[0-9]|p[0-9][0-9]|w|w[0-9]|w[0-9][0-9]|l|l[0-9]|u)?";
        if (!t.matches(whole) || t.isEmpty()) {
            int good = 0;
            for (int k = 0; k <= t.length(); k++) {
                if (t.substring(0, k).matches(whole + ending)) {
                    good = k;
                }
            }
            return -1000 - good;
        }
        State s = now;
        int place = 0;
        int told = 0;
        for (String one : t.split(";")) {
            State next = s.twin();
            int a = one.length() > 1 ? one.charAt(1) - '0' : 0;
            int b = one.length() > 2 ? one.charAt(2) - '0' : 0;
            boolean good;
            switch (one.charAt(0)) {
                case 'p':
                    good = a <= 7 && s.size() < 7;
                    if (good) next = s.with(a, b);
                    break;
                case 'w':
                    good = a < s.size() && b < s.size() && a != b;
                    if (good) next.beats(a, b);
                    break;
                case 'l':
                    good = a == 1 || a == 2;
                    if (good) next.law = a;
                    break;
                default:
                    good = s.size() > 0;
                    if (good) next = s.without(s.size() - 1);
                    break;
            }
            if (!good) return -2000 - place;
            s = next;
            place += one.length() + 1;
            told++;
        }
        now = s;
        return told;
    }

    int one(int i, int what) {
        if (!in(i) || what < 0 || what > 5) return -1;
        int[] p = now.people.get(i);
        int bits = 0;
        for (int j = 0; j < now.size(); j++) {
            bits += now.won[i][j] ? 1 << j : 0;
        }
        int[] told = {p[0], p[1], skill(p[0], p[1]), bits, now.counts(i) ? 1 : 0, price(p[0], p[1])};
        return told[what];
    }

    int comes(int d) {
        if (!shelf(d)) return -1;
        if (shelves[d] == null) return -11;
        if (row(d) != null) return -12;
        if (now.size() == 7) return -2;
        int[] p = (int[]) shelves[d];
        now = now.with(p[0], p[1]);
        return now.size() - 1;
    }

    int beat(int i, int j) {
        if (!both(i, j)) return -1;
        int turns = now.won[i][j] ? 0 : 1;
        now.beats(i, j);
        return turns;
    }

    int law(int v) {
        if (v != 1 && v != 2) return -1;
        int before = now.law;
        now.law = v;
        return before;
    }

    int lawful() {
        return now.lawful() ? 1 : 0;
    }

    int masters(int i, int j) {
        if (!both(i, j)) return -1;
        int bits = 0;
        for (int m = 0; m < now.size(); m++) {
            bits += now.masters(m, i, j) ? 1 << m : 0;
        }
        return bits;
    }

    int orphans(int what) {
        if (what != 0 && what != 1) return -1;
        int orphans = 0;
        int first = -4;
        for (int[] p : now.pairs()) {
            if (!now.mastered(p[0], p[1])) {
                orphans++;
                first = first == -4 ? 10 * p[0] + p[1] : first;
            }
        }
        return what == 0 ? orphans : first;
    }

    int holding() {
        int holding = 0;
        for (int[] p : now.pairs()) {
            holding += now.lawful() && !now.turned(p).lawful() ? 1 : 0;
        }
        return holding;
    }

    int free() {
        int free = 0;
        for (int[] p : now.pairs()) {
            free += now.turned(p).lawful() ? 1 : 0;
        }
        return free;
    }

    int rings() {
        int rings = 0;
        for (int i = 0; i < now.size(); i++) {
            for (int j = 0; j < now.size(); j++) {
                for (int k = 0; k < now.size(); k++) {
                    rings += now.won[i][j] && now.won[j][k] && now.won[k][i] ? 1 : 0;
                }
            }
        }
        return rings / 3;
    }

    int cup() {
        for (int w = 6; w >= 0; w--) {
            for (int i = 0; i < now.size(); i++) {
                if (now.wins(i) == w) return i;
            }
        }
        return -4;
    }

    private int paid(int[] match) {
        int winner = now.won[match[0]][match[1]] ? match[0] : match[1];
        return price(now.people.get(winner)[0], now.people.get(winner)[1]);
    }

    /** The fewest matches, and the least price. */
    private int[] repaired() {
        int[] least = {-4, -4};
        List<int[]> p = now.pairs();
        lower(least, 0, 0, now.turned());
        for (int i = 0; i < p.size(); i++) {
            int a = paid(p.get(i));
            lower(least, 1, a, now.turned(p.get(i)));
            for (int j = i + 1; j < p.size(); j++) {
                int b = a + paid(p.get(j));
                lower(least, 2, b, now.turned(p.get(i), p.get(j)));
                for (int k = j + 1; k < p.size(); k++) {
                    lower(least, 3, b + paid(p.get(k)), now.turned(p.get(i), p.get(j), p.get(k)));
                }
            }
        }
        return least;
    }

    private static void lower(int[] least, int matches, int sum, State s) {
        if (s.lawful()) {
            least[0] = least[0] == -4 ? matches : Math.min(least[0], matches);
            least[1] = least[1] == -4 ? sum : Math.min(least[1], sum);
        }
    }

    int right() {
        return repaired()[0];
    }

    int cheapest() {
        return repaired()[1];
    }

    int fresh(int kind, int figure, int what) {
        if (kind < 0 || kind > 7 || figure < 0 || figure > 9 || what < 0 || what > 1) return -1;
        int ways = 0;
        int fewest = -4;
        int n = now.size();
        for (int bits = 0; bits < 1 << n; bits++) {
            State s = now.with(kind, figure);
            int lost = n;
            for (int i = 0; i < n; i++) {
                if ((bits & 1 << i) != 0) {
                    s.beats(n, i);
                    lost--;
                }
            }
            if (s.lawful()) {
                ways++;
                fewest = fewest == -4 ? lost : Math.min(fewest, lost);
            }
        }
        return what == 0 ? ways : fewest;
    }

    int leavers() {
        int bits = 0;
        for (int i = 0; i < now.size(); i++) {
            bits += now.without(i).lawful() ? 1 << i : 0;
        }
        return bits;
    }

    long odds(int part) {
        if (part != 0 && part != 1) return -1000000001L;
        if (now.size() > 4) return -1000000003L;
        BigInteger above = BigInteger.ZERO;
        BigInteger below = BigInteger.ONE;
        for (int[] p : now.pairs()) {
            below = below.multiply(BigInteger.valueOf(skillOf(now, p[0]) + skillOf(now, p[1])));
        }
        for (State s : now.all()) {
            BigInteger product = BigInteger.ONE;
            for (int[] p : s.pairs()) {
                product = product.multiply(BigInteger.valueOf(skillOf(s, s.won[p[0]][p[1]] ? p[0] : p[1])));
            }
            above = s.lawful() ? above.add(product) : above;
        }
        BigInteger common = above.gcd(below);
        return (part == 0 ? above : below).divide(common).longValueExact();
    }

    static int ways(int n, int law) {
        if (n < 1 || n > 5 || law < 1 || law > 2) return -1;
        State s = new State();
        for (int i = 0; i < n; i++) {
            s = s.with(0, 0);
        }
        s.law = law;
        int ways = 0;
        for (State t : s.all()) {
            ways += t.lawful() ? 1 : 0;
        }
        return ways;
    }

    private static boolean ringOf(int n) {
        return n >= 3 && n <= 19 && n % 2 == 1;
    }

    static int round(int n, int set, int law) {
        if (!ringOf(n) || law < 1 || law > 2) return -1;
        for (int d = 0; d < 32; d++) {
            boolean has = (set & 1 << d) != 0;
            if (has && (d == 0 || d >= n)) return -3;
            if (d > 0 && d < n && has == ((set & 1 << (n - d)) != 0)) return -3;
        }
        for (int i = 0; i < n; i++) {
            for (int j = 0; j < n; j++) {
                if (law == 1 ? i != j : i == j) continue;
                boolean mastered = false;
                for (int m = 0; m < n; m++) {
                    mastered |= (set & 1 << (i - m + n) % n) != 0 && (set & 1 << (j - m + n) % n) != 0;
                }
                if (!mastered) return 0;
            }
        }
        return 1;
    }

    static int byRounds(int n, int law) {
        if (!ringOf(n) || law < 1 || law > 2) return -1;
        for (int set = 0; set < 1 << n; set++) {
            if (round(n, set, law) == 1) return set;
        }
        return -4;
    }

    int played(int d) {
        if (!shelf(d)) return -1;
        if (now.size() > 5) return -3;
        if (shelves[d] == null) return -11;
        if (row(d) == null || sorts[d] != 0) return -12;
        List<Long> row = row(d);
        if (row.size() % 2 != 0) return -13;
        for (int i = 0; i < row.size(); i += 2) {
            if (!both(row.get(i).intValue(), row.get(i + 1).intValue())) return -13;
        }
        int ways = 0;
        for (State s : now.all()) {
            boolean so = s.lawful();
            for (int i = 0; i < row.size(); i += 2) {
                so &= s.won[row.get(i).intValue()][row.get(i + 1).intValue()];
            }
            ways += so ? 1 : 0;
        }
        return ways;
    }

    int seeded(int n, int z) {
        if (n < 1 || n > 30) return -1;
        int lawful = 0;
        BigInteger seed = BigInteger.valueOf(z);
        for (int season = 0; season < n; season++) {
            State s = now.twin();
            for (int[] p : s.pairs()) {
                seed = seed.multiply(BigInteger.valueOf(1103515245L)).add(BigInteger.valueOf(12345L));
                seed = seed.mod(BigInteger.ONE.shiftLeft(32));
                long low = seed.longValueExact() % 2147483648L / 65536L;
                int a = skillOf(s, p[0]);
                if (low % (a + skillOf(s, p[1])) < a) {
                    s.beats(p[0], p[1]);
                } else {
                    s.beats(p[1], p[0]);
                }
            }
            lawful += s.lawful() ? 1 : 0;
        }
        return lawful;
    }

    int judge(int d) {
        if (!shelf(d)) return -1;
        if (shelves[d] == null) return -11;
        if (row(d) == null) return -12;
        List<Long> row = row(d);
        for (int i = 0; i < row.size(); i += 3) {
            if (i + 3 > row.size()) return i;
            long a = row.get(i);
            long b = row.get(i + 1);
            long m = row.get(i + 2);
            if (a < 0 || a >= now.size()) return i;
            if (b < 0 || b >= now.size() || a == b) return i + 1;
            if (m < 0 || m >= now.size() || !now.masters((int) m, (int) a, (int) b)) return i + 2;
        }
        return -4;
    }

    int image() {
        kept = now.twin();
        return now.size();
    }

    int restore() {
        if (kept == null) return -3;
        now = kept.twin();
        return now.size();
    }

    int count(int what) {
        int counting = 0;
        int prices = 0;
        for (int i = 0; i < now.size(); i++) {
            counting += now.counts(i) ? 1 : 0;
            prices += one(i, 5);
        }
        switch (what) {
            case 0: return now.size();
            case 1: return now.law;
            case 2: return counting;
            case 3: return prices;
            default: return -1;
        }
    }

    int keep(int d, int what, int k, int figure) {
        if (!shelf(d) || what < 0 || what > 1) return -1;
        if (what == 0) {
            shelves[d] = null;
            return 0;
        }
        if (k < 0 || k > 7 || figure < 0 || figure > 9) return -1;
        shelves[d] = new int[] {k, figure};
        return 0;
    }

    int row(int d, int sort, int n) {
        if (!shelf(d) || sort < 0 || sort > 2 || n > 100) return -1;
        if (n < 0) return -14;
        List<Long> row = new ArrayList<>();
        for (int i = 0; i < n; i++) {
            row.add(0L);
        }
        shelves[d] = row;
        sorts[d] = sort;
        return 0;
    }

    int put(int d, int i, int v) {
        if (!shelf(d)) return -1;
        if (shelves[d] == null) return -11;
        if (row(d) == null) return -12;
        if (i < 0 || i >= row(d).size()) return -13;
        long bits = 8L << sorts[d];
        long half = 1L << (bits - 1);
        row(d).set(i, Math.floorMod(v + half, 2 * half) - half);
        return 0;
    }

    String element(int d, int i) {
        if (!shelf(d)) return "throws.IllegalArgumentException";
        if (row(d) == null || i < 0 || i >= row(d).size()) return "throws.IllegalStateException";
        return "" + row(d).get(i);
    }

    int copy(int d, int i, int e, int j, int n) {
        if (!shelf(d) || !shelf(e)) return -1;
        if (shelves[d] == null || shelves[e] == null) return -11;
        if (row(d) == null || row(e) == null || sorts[d] != sorts[e]) return -12;
        if (i < 0 || j < 0 || n < 0) return -13;
        if ((long) i + n > row(d).size() || (long) j + n > row(e).size()) return -13;
        List<Long> part = new ArrayList<>(row(d).subList(i, i + n));
        for (int k = 0; k < n; k++) {
            row(e).set(j + k, part.get(k));
        }
        return n;
    }

    int price(int d) {
        if (!shelf(d)) return -1;
        if (shelves[d] == null) return -11;
        if (row(d) != null) return -12;
        int[] p = (int[]) shelves[d];
        return price(p[0], p[1]);
    }

    int toss(int d) {
        int price = price(d);
        if (price < 0) return price;
        int[] p = (int[]) shelves[d];
        if (p[0] == 2 || p[1] == 0) return -15;
        return p[0] == 6 ? 200 + price : p[0] == 5 ? 100 + p[1] : p[1];
    }
}
