/**
 * A league of people of kinds, each two of whom have played, which is lawful if for any two (or
 * any one) of them somebody who counts has beaten them. The words in capital letters are those of
 * the document's terms.
 */
public final class OneBeatsBoth {
    private static final int REFUSED = -1;
    private static final int NO_ROOM = -2;
    private static final int NOT_NOW = -3;
    private static final int NONE = -4;
    private static final int NOTHING_HELD = -11;
    private static final int OTHER_KIND = -12;
    private static final int NO_PLACE = -13;
    private static final int BELOW_NOUGHT = -14;
    private static final int NO_FAILURE = -15;
    private static final long LONG_REFUSED = -1000000001L;
    private static final long LONG_NOT_NOW = -1000000003L;

    private static final int ROOM = 7;
    /** One more than the ROOM: FRESH has one more of PEOPLE in mind. */
    private static final int SEATS = 8;
    private static final int KINDS = 8;
    private static final int SHELVES = 8;
    private static final int LONGEST_ROW = 100;
    private static final int MOST_TURNS = 3;
    private static final int MOST_SEASONS = 30;
    private static final int WIDEST_RING = 19;

    /** The matches, ordered by the greater of both, so that a match keeps its place as PEOPLE come. */
    private static final int[] LESSER = {
        0, 0, 1, 0, 1, 2, 0, 1, 2, 3, 0, 1, 2, 3, 4, 0, 1, 2, 3, 4, 5, 0, 1, 2, 3, 4, 5, 6
    };
    private static final int[] GREATER = {
        1, 2, 2, 3, 3, 3, 4, 4, 4, 4, 5, 5, 5, 5, 5, 6, 6, 6, 6, 6, 6, 7, 7, 7, 7, 7, 7, 7
    };

    private final Player plain;
    private final League now;
    /** Whatever is only in mind is played here; it holds nothing from call to call. */
    private final League draft;
    private final League pictured;
    private boolean hasImage;
    private final Player[] peopleOnShelves;
    private final Row[] rowsOnShelves;
    /** PLAYED: whom each must have BEATEN (bits). */
    private final int[] told;

    public OneBeatsBoth() {
        plain = new Player(0);
        now = new League(plain);
        draft = new League(plain);
        pictured = new League(plain);
        hasImage = false;
        peopleOnShelves = new Player[SHELVES];
        rowsOnShelves = new Row[SHELVES];
        told = new int[SEATS];
    }

    // ---- leagues

    public int league(int d) {
        Row text = bytesOn(d);
        if (text == null) {
            return whyNotOn(d);
        }
        int broken = brokenPlace(text);
        if (broken >= 0) {
            return -1000 - broken;
        }
        draft.become(now);
        int statements = 0;
        for (int i = 0; i < text.size(); i += digitsBehind(text.at(i)) + 2) {
            if (!draftFollows(text.at(i), text.at(i + 1) - '0', text.at(i + 2) - '0')) {
                return -2000 - i;
            }
            statements++;
        }
        now.become(draft);
        return statements;
    }

    public int one(int one, int what) {
        if (!now.has(one)) {
            return REFUSED;
        }
        Player person = now.people[one];
        switch (what) {
            case 0:
                return person.kind();
            case 1:
                return person.figure;
            case 2:
                return person.skill();
            case 3:
                return now.beaten[one];
            case 4:
                return now.counting() >> one & 1;
            case 5:
                return person.cost();
            default:
                return REFUSED;
        }
    }

    public int comes(int d) {
        Player person = personOn(d);
        if (person == null) {
            return whyNotOn(d);
        }
        if (now.size >= ROOM) {
            return NO_ROOM;
        }
        now.seat(person);
        return now.size - 1;
    }

    public int beat(int one, int other) {
        if (!now.hasBoth(one, other)) {
            return REFUSED;
        }
        if (now.hasBeaten(one, other)) {
            return 0;
        }
        now.win(one, other);
        return 1;
    }

    public int law(int v) {
        if (!isLaw(v)) {
            return REFUSED;
        }
        int before = now.law;
        now.law = v;
        return before;
    }

    public int lawful() {
        return now.isLawful() ? 1 : 0;
    }

    // ---- pairs, matches

    public int masters(int one, int other) {
        if (!now.hasBoth(one, other)) {
            return REFUSED;
        }
        return now.mastersAmong(now.counting(), one, other);
    }

    public int orphans(int what) {
        switch (what) {
            case 0:
                return now.orphanPairs();
            case 1:
                return now.firstOrphanPair();
            default:
                return REFUSED;
        }
    }

    public int holding() {
        return now.isLawful() ? now.matches() - lawfulTurns() : 0;
    }

    public int free() {
        return lawfulTurns();
    }

    public int rings() {
        int rings = 0;
        for (int i = 0; i < now.size; i++) {
            for (int j = i + 1; j < now.size; j++) {
                for (int k = j + 1; k < now.size; k++) {
                    if (now.isRing(i, j, k)) {
                        rings++;
                    }
                }
            }
        }
        return rings;
    }

    public int cup() {
        int best = NONE;
        int most = -1;
        for (int i = 0; i < now.size; i++) {
            int wins = Integer.bitCount(now.beaten[i]);
            if (wins > most) {
                best = i;
                most = wins;
            }
        }
        return best;
    }

    // ---- to put it right

    public int right() {
        draft.become(now);
        return leastToTurn(draft, 0, MOST_TURNS, false);
    }

    public int cheapest() {
        draft.become(now);
        return leastToTurn(draft, 0, MOST_TURNS, true);
    }

    public int fresh(int kind, int figure, int what) {
        if (!isPerson(kind, figure) || what < 0 || what > 1) {
            return REFUSED;
        }
        draft.become(now);
        draft.seat(newPerson(kind, figure));
        int newcomer = now.size;
        int ways = 0;
        int fewestLost = NONE;
        for (int won = 0; won < 1 << newcomer; won++) {
            draft.newcomerBeats(newcomer, won);
            if (draft.isLawful()) {
                ways++;
                int lost = newcomer - Integer.bitCount(won);
                if (fewestLost == NONE || lost < fewestLost) {
                    fewestLost = lost;
                }
            }
        }
        return what == 0 ? ways : fewestLost;
    }

    public int leavers() {
        int leavers = 0;
        for (int i = 0; i < now.size; i++) {
            draft.become(now);
            draft.unseat(i);
            if (draft.isLawful()) {
                leavers |= 1 << i;
            }
        }
        return leavers;
    }

    // ---- odds, counts, rounds

    public long odds(int part) {
        if (part < 0 || part > 1) {
            return LONG_REFUSED;
        }
        if (now.size > 4) {
            return LONG_NOT_NOW;
        }
        draft.become(now);
        long above = 0;
        long below = 0;
        for (int wins = 0; wins < 1 << draft.matches(); wins++) {
            draft.play(wins);
            long weight = draft.weight();
            below += weight;
            if (draft.isLawful()) {
                above += weight;
            }
        }
        long common = commonDivisor(above, below);
        long asked = part == 0 ? above : below;
        return common > 1 ? asked / common : asked;
    }

    public int ways(int n, int law) {
        if (n < 1 || n > 5 || !isLaw(law)) {
            return REFUSED;
        }
        draft.size = 0;
        draft.law = law;
        for (int i = 0; i < n; i++) {
            draft.seat(plain);
        }
        clearTold();
        return lawfulWaysAsTold();
    }

    public int round(int n, int set, int law) {
        if (!isRing(n) || !isLaw(law)) {
            return REFUSED;
        }
        if (!isHalfOfDifferences(n, set)) {
            return NOT_NOW;
        }
        return isLawfulRing(n, set, law) ? 1 : 0;
    }

    public int byRounds(int n, int law) {
        if (!isRing(n) || !isLaw(law)) {
            return REFUSED;
        }
        int half = (n - 1) / 2;
        for (int upper = 0; upper < 1 << half; upper++) {
            int set = setWithUpperHalf(n, upper);
            if (isLawfulRing(n, set, law)) {
                return set;
            }
        }
        return NONE;
    }

    // ---- what was played

    public int played(int d) {
        if (!isShelf(d)) {
            return REFUSED;
        }
        if (now.size > 5) {
            return NOT_NOW;
        }
        Row row = bytesOn(d);
        if (row == null) {
            return whyNotOn(d);
        }
        if (row.size() % 2 != 0) {
            return NO_PLACE;
        }
        clearTold();
        for (int i = 0; i + 1 < row.size(); i += 2) {
            int winner = row.at(i);
            int loser = row.at(i + 1);
            if (!now.hasBoth(winner, loser)) {
                return NO_PLACE;
            }
            told[winner] |= 1 << loser;
        }
        draft.become(now);
        return lawfulWaysAsTold();
    }

    public int seeded(int n, int z) {
        if (n < 1 || n > MOST_SEASONS) {
            return REFUSED;
        }
        draft.become(now);
        int seed = z;
        int lawful = 0;
        for (int season = 0; season < n; season++) {
            seed = draft.playSeason(seed);
            if (draft.isLawful()) {
                lawful++;
            }
        }
        return lawful;
    }

    public int judge(int d) {
        Row row = rowOn(d);
        if (row == null) {
            return whyNotOn(d);
        }
        int whole = row.size() / 3 * 3;
        for (int i = 0; i < whole; i += 3) {
            int wrong = now.wrongOfThree(row.at(i), row.at(i + 1), row.at(i + 2));
            if (wrong >= 0) {
                return i + wrong;
            }
        }
        return whole < row.size() ? whole : NONE;
    }

    // ---- the image, what is told

    public int image() {
        pictured.become(now);
        hasImage = true;
        return now.size;
    }

    public int restore() {
        if (!hasImage) {
            return NOT_NOW;
        }
        now.become(pictured);
        return now.size;
    }

    public int count(int what) {
        switch (what) {
            case 0:
                return now.size;
            case 1:
                return now.law;
            case 2:
                return Integer.bitCount(now.counting());
            case 3:
                return now.allCosts();
            default:
                return REFUSED;
        }
    }

    // ---- shelves

    public int keep(int d, int what, int k, int figure) {
        if (!isShelf(d) || what < 0 || what > 1) {
            return REFUSED;
        }
        if (what == 1 && !isPerson(k, figure)) {
            return REFUSED;
        }
        rowsOnShelves[d] = null;
        peopleOnShelves[d] = what == 1 ? newPerson(k, figure) : null;
        return 0;
    }

    public int row(int d, int sort, int n) {
        if (!isShelf(d) || sort < 0 || sort > 2 || n > LONGEST_ROW) {
            return REFUSED;
        }
        if (n < 0) {
            return BELOW_NOUGHT;
        }
        peopleOnShelves[d] = null;
        rowsOnShelves[d] = new Row(sort, new int[n]);
        return 0;
    }

    public int put(int d, int i, int v) {
        Row row = rowOn(d);
        if (row == null) {
            return whyNotOn(d);
        }
        if (!row.hasPlaces(i, 1)) {
            return NO_PLACE;
        }
        row.change(i, v);
        return 0;
    }

    public long element(int d, int i) throws IllegalArgumentException, IllegalStateException {
        if (!isShelf(d)) {
            throw new IllegalArgumentException("no such shelf");
        }
        Row row = rowOn(d);
        if (row == null || !row.hasPlaces(i, 1)) {
            throw new IllegalStateException("no row, or no such place");
        }
        return row.at(i);
    }

    public int copy(int d, int i, int e, int j, int n) {
        if (!isShelf(d) || !isShelf(e)) {
            return REFUSED;
        }
        if (isBare(d) || isBare(e)) {
            return NOTHING_HELD;
        }
        Row from = rowOn(d);
        Row to = rowOn(e);
        if (from == null || to == null || from.sort != to.sort) {
            return OTHER_KIND;
        }
        if (!from.hasPlaces(i, n) || !to.hasPlaces(j, n)) {
            return NO_PLACE;
        }
        System.arraycopy(from.cells, i, to.cells, j, n);
        return n;
    }

    public int price(int d) {
        Player person = personOn(d);
        return person == null ? whyNotOn(d) : person.cost();
    }

    public int toss(int d) {
        Player person = personOn(d);
        if (person == null) {
            return whyNotOn(d);
        }
        try {
            person.fail();
        } catch (UnsupportedOperationException e) {
            return 200 + person.cost();
        } catch (IllegalArgumentException e) {
            return 100 + person.figure;
        } catch (IllegalStateException e) {
            return person.figure;
        }
        return NO_FAILURE;
    }

    // ---- what is as told

    private static boolean isLaw(int v) {
        return v == 1 || v == 2;
    }

    private static boolean isPerson(int kind, int figure) {
        return kind >= 0 && kind < KINDS && figure >= 0 && figure <= 9;
    }

    private static boolean isShelf(int d) {
        return d >= 0 && d < SHELVES;
    }

    private static boolean isRing(int n) {
        return n >= 3 && n <= WIDEST_RING && n % 2 == 1;
    }

    private static Player newPerson(int kind, int figure) {
        switch (kind) {
            case 1:
                return new Nuisance(figure);
            case 2:
                return new Paid(figure);
            case 3:
                return new Guest(figure);
            case 4:
                return new Twin(figure);
            case 5:
                return new Novice(figure);
            case 6:
                return new Priest(figure);
            case 7:
                return new Champion(figure);
            default:
                return new Player(figure);
        }
    }

    // ---- what shelves hold

    private boolean isBare(int d) {
        return personOn(d) == null && rowOn(d) == null;
    }

    private Player personOn(int d) {
        return isShelf(d) ? peopleOnShelves[d] : null;
    }

    private Row rowOn(int d) {
        return isShelf(d) ? rowsOnShelves[d] : null;
    }

    private Row bytesOn(int d) {
        Row row = rowOn(d);
        return row != null && row.sort == 0 ? row : null;
    }

    /** Why what is wanted isn't on SHELF d. */
    private int whyNotOn(int d) {
        if (!isShelf(d)) {
            return REFUSED;
        }
        return isBare(d) ? NOTHING_HELD : OTHER_KIND;
    }

    // ---- a league as a text

    /** How many digits stand behind a STATEMENT's letter; -1 if it is none. */
    private static int digitsBehind(int letter) {
        switch (letter) {
            case 'p':
            case 'w':
                return 2;
            case 'l':
                return 1;
            case 'u':
                return 0;
            default:
                return -1;
        }
    }

    /** The place of the first byte with which no LEAGUE can go on; -1 if it is whole. */
    private static int brokenPlace(Row text) {
        // The empty text ends too early, so place 0 is looked at in any case.
        for (int i = 0; i == 0 || i < text.size(); i += digitsBehind(text.at(i)) + 2) {
            int digits = digitsBehind(text.at(i));
            if (digits < 0) {
                return i;
            }
            int end = i + digits + 1;
            for (int k = i + 1; k < end; k++) {
                if (text.at(k) < '0' || text.at(k) > '9') {
                    return k;
                }
            }
            if (text.at(end) != ';') {
                return end;
            }
        }
        return -1;
    }

    /** The draft follows one STATEMENT; false if it isn't as told. */
    private boolean draftFollows(int letter, int first, int second) {
        switch (letter) {
            case 'p':
                if (!isPerson(first, second) || draft.size >= ROOM) {
                    return false;
                }
                draft.seat(newPerson(first, second));
                return true;
            case 'w':
                if (!draft.hasBoth(first, second)) {
                    return false;
                }
                draft.win(first, second);
                return true;
            case 'l':
                if (!isLaw(first)) {
                    return false;
                }
                draft.law = first;
                return true;
            case 'u':
                if (draft.size == 0) {
                    return false;
                }
                draft.unseat(draft.size - 1);
                return true;
            default:
                return false;
        }
    }

    // ---- matches turned in mind

    /** By how many matches' turn it is LAWFUL. */
    private int lawfulTurns() {
        draft.become(now);
        int turns = 0;
        for (int match = 0; match < draft.matches(); match++) {
            draft.turn(match);
            if (draft.isLawful()) {
                turns++;
            }
            draft.turn(match);
        }
        return turns;
    }

    /**
     * The least that a league takes to be LAWFUL by the turn of so many matches at most, from a
     * match on: by PRICES, or 1 each; NONE. No match costs less than 1, so a LAWFUL one is turned
     * no further, and a match that costs what is known already is not looked at.
     */
    private static int leastToTurn(League some, int from, int turnsLeft, boolean byPrices) {
        if (some.isLawful()) {
            return 0;
        }
        int least = NONE;
        if (turnsLeft <= 0) {
            return least;
        }
        for (int match = from; match < some.matches(); match++) {
            int cost = byPrices ? some.costOfTurn(match) : 1;
            if (least == NONE || cost < least) {
                some.turn(match);
                int rest = leastToTurn(some, match + 1, turnsLeft - 1, byPrices);
                some.turn(match);
                if (rest != NONE && (least == NONE || cost + rest < least)) {
                    least = cost + rest;
                }
            }
        }
        return least;
    }

    // ---- all ways to have played

    private void clearTold() {
        for (int i = 0; i < told.length; i++) {
            told[i] = 0;
        }
    }

    /** In how many ways those in the draft can have played so that all told is so, and it is LAWFUL. */
    private int lawfulWaysAsTold() {
        int ways = 0;
        for (int wins = 0; wins < 1 << draft.matches(); wins++) {
            draft.play(wins);
            if (draft.isAsTold(told) && draft.isLawful()) {
                ways++;
            }
        }
        return ways;
    }

    private static long commonDivisor(long one, long other) {
        long greater = one;
        long lesser = other;
        // Two steps halve what is left, so that a long takes under 128.
        for (int step = 0; step < 128 && lesser != 0; step++) {
            long rest = greater % lesser;
            greater = lesser;
            lesser = rest;
        }
        return greater;
    }

    // ---- rings of numbers

    /** Of each d and n less d just one is in the set, and nothing else. */
    private static boolean isHalfOfDifferences(int n, int set) {
        if (set < 0 || set >> n != 0 || (set & 1) != 0) {
            return false;
        }
        for (int d = 1; d < n; d++) {
            if ((set >> d & 1) == (set >> (n - d) & 1)) {
                return false;
            }
        }
        return true;
    }

    /** The set whose differences above the middle are those bits, and below it what these leave. */
    private static int setWithUpperHalf(int n, int upper) {
        int half = (n - 1) / 2;
        int set = upper << (half + 1);
        for (int d = 1; d <= half; d++) {
            if ((set >> (n - d) & 1) == 0) {
                set |= 1 << d;
            }
        }
        return set;
    }

    private static boolean isLawfulRing(int n, int set, int law) {
        int all = (1 << n) - 1;
        // d and n less d are never both in the set: who is not behind 0 has BEATEN him.
        int beatNought = all & ~set & ~1;
        if (law == 1) {
            return beatNought != 0;
        }
        // What is so for 0 and another one is so for any two: the ring can be gone round.
        for (int other = 1; other < n; other++) {
            int beatOther = (beatNought << other | beatNought >> (n - other)) & all;
            if ((beatNought & beatOther) == 0) {
                return false;
            }
        }
        return true;
    }

    // ---- kinds of people

    private static class Player {
        final int figure;

        Player(int figure) {
            this.figure = figure;
        }

        int kind() {
            return 0;
        }

        int skill() {
            return figure + 1;
        }

        boolean countsWith(int wins) {
            return true;
        }

        int cost() {
            return 3;
        }

        /** Throws the FAILURE, if there is one: the exception tells what kind of FAILURE. */
        void fail() {
            if (figure != 0) {
                throw new IllegalStateException("a failure");
            }
        }
    }

    private static class Nuisance extends Player {
        Nuisance(int figure) {
            super(figure);
        }

        int kind() {
            return 1;
        }

        int skill() {
            return 2 * super.skill();
        }

        boolean countsWith(int wins) {
            return wins <= figure;
        }

        int cost() {
            return super.cost() + figure;
        }
    }

    private static class Paid extends Player {
        Paid(int figure) {
            super(figure);
        }

        int kind() {
            return 2;
        }

        int cost() {
            return super.cost() - 2;
        }

        void fail() {
            // Who is paid has no FAILURE.
        }
    }

    private static class Guest extends Player {
        Guest(int figure) {
            super(figure);
        }

        int kind() {
            return 3;
        }

        int skill() {
            return super.skill() + 3;
        }

        int cost() {
            return 2 * super.cost();
        }
    }

    private static final class Twin extends Nuisance {
        Twin(int figure) {
            super(figure);
        }

        int kind() {
            return 4;
        }

        int skill() {
            return super.skill() - 1;
        }

        boolean countsWith(int wins) {
            return super.countsWith(wins) || wins % 2 == 1;
        }

        int cost() {
            return super.cost() - 1;
        }
    }

    private static final class Novice extends Paid {
        Novice(int figure) {
            super(figure);
        }

        int kind() {
            return 5;
        }

        int skill() {
            return 1;
        }

        boolean countsWith(int wins) {
            return wins >= figure;
        }

        int cost() {
            return super.cost() * (figure + 1);
        }

        void fail() {
            if (figure != 0) {
                throw new IllegalArgumentException("a novice's failure");
            }
        }
    }

    private static final class Priest extends Guest {
        Priest(int figure) {
            super(figure);
        }

        int kind() {
            return 6;
        }

        boolean countsWith(int wins) {
            return false;
        }

        int cost() {
            return super.cost() + 5;
        }

        void fail() {
            if (figure != 0) {
                throw new UnsupportedOperationException("a priest's failure");
            }
        }
    }

    private static final class Champion extends Player {
        Champion(int figure) {
            super(figure);
        }

        int kind() {
            return 7;
        }

        int skill() {
            return super.skill() + 9;
        }

        int cost() {
            return super.cost() * 4;
        }
    }

    // ---- rows

    private static final class Row {
        final int sort;
        final int[] cells;

        Row(int sort, int[] cells) {
            this.sort = sort;
            this.cells = cells;
        }

        int size() {
            return cells.length;
        }

        /** Whether n places from i on are there. */
        boolean hasPlaces(int i, int n) {
            return i >= 0 && n >= 0 && n <= cells.length && i <= cells.length - n;
        }

        /** Element i; -1, which is nobody and no sign of a text, where there is none. */
        int at(int i) {
            return hasPlaces(i, 1) ? cells[i] : -1;
        }

        void change(int i, int v) {
            if (!hasPlaces(i, 1)) {
                return;
            }
            switch (sort) {
                case 0:
                    cells[i] = (byte) v;
                    break;
                case 1:
                    cells[i] = (short) v;
                    break;
                default:
                    cells[i] = v;
                    break;
            }
        }
    }

    // ---- the league itself

    /** PEOPLE, whom each has BEATEN (bits), and the LAW. */
    private static final class League {
        /** Never null: a seat that is free holds whoever sat there, or the one it was made with. */
        final Player[] people;
        final int[] beaten;
        int size;
        int law;

        League(Player anyone) {
            people = new Player[SEATS];
            for (int i = 0; i < SEATS; i++) {
                people[i] = anyone;
            }
            beaten = new int[SEATS];
            size = 0;
            law = 2;
        }

        void become(League other) {
            for (int i = 0; i < SEATS; i++) {
                people[i] = other.people[i];
                beaten[i] = other.beaten[i];
            }
            size = other.size;
            law = other.law;
        }

        boolean has(int one) {
            return one >= 0 && one < size;
        }

        boolean hasBoth(int one, int other) {
            return has(one) && has(other) && one != other;
        }

        boolean hasBeaten(int one, int other) {
            return (beaten[one] >> other & 1) != 0;
        }

        void seat(Player person) {
            if (person == null || size >= SEATS) {
                return;
            }
            for (int i = 0; i < size; i++) {
                beaten[i] |= 1 << size;
            }
            people[size] = person;
            beaten[size] = 0;
            size++;
        }

        void unseat(int leaver) {
            if (!has(leaver)) {
                return;
            }
            for (int i = leaver; i + 1 < size; i++) {
                people[i] = people[i + 1];
                beaten[i] = beaten[i + 1];
            }
            size--;
            int ahead = (1 << leaver) - 1;
            for (int i = 0; i < size; i++) {
                beaten[i] = beaten[i] & ahead | beaten[i] >> 1 & ~ahead;
            }
        }

        void win(int one, int other) {
            beaten[one] |= 1 << other;
            beaten[other] &= ~(1 << one);
        }

        int matches() {
            return size * (size - 1) / 2;
        }

        void turn(int match) {
            beaten[LESSER[match]] ^= 1 << GREATER[match];
            beaten[GREATER[match]] ^= 1 << LESSER[match];
        }

        /** The PRICE of the one who won a match. */
        int costOfTurn(int match) {
            int lesser = LESSER[match];
            int greater = GREATER[match];
            return people[hasBeaten(lesser, greater) ? lesser : greater].cost();
        }

        /** All have played anew: the lesser one won the matches of these bits. */
        void play(int lesserWins) {
            for (int i = 0; i < size; i++) {
                beaten[i] = 0;
            }
            for (int match = 0; match < matches(); match++) {
                if ((lesserWins >> match & 1) != 0) {
                    beaten[LESSER[match]] |= 1 << GREATER[match];
                } else {
                    beaten[GREATER[match]] |= 1 << LESSER[match];
                }
            }
        }

        /** A season by DRAWS from a seed; what the seed has become. */
        int playSeason(int seed) {
            int z = seed;
            for (int i = 0; i < size; i++) {
                for (int j = i + 1; j < size; j++) {
                    z = z * 1103515245 + 12345;
                    int skill = people[i].skill();
                    if (drawBelow(skill + people[j].skill(), z) < skill) {
                        win(i, j);
                    } else {
                        win(j, i);
                    }
                }
            }
            return z;
        }

        private static int drawBelow(int n, int z) {
            return n > 0 ? ((z & 0x7fffffff) >> 16) % n : 0;
        }

        /** The latest has BEATEN those of these bits, and lost against the others. */
        void newcomerBeats(int newcomer, int won) {
            for (int i = 0; i < newcomer; i++) {
                if ((won >> i & 1) != 0) {
                    win(newcomer, i);
                } else {
                    win(i, newcomer);
                }
            }
        }

        /** Of all outcomes' weights together this part is the odds of the matches as they were played. */
        long weight() {
            long weight = 1;
            for (int match = 0; match < matches(); match++) {
                int lesser = LESSER[match];
                int greater = GREATER[match];
                weight *= people[hasBeaten(lesser, greater) ? lesser : greater].skill();
            }
            return weight;
        }

        boolean isAsTold(int[] told) {
            for (int i = 0; i < size; i++) {
                if ((told[i] & ~beaten[i]) != 0) {
                    return false;
                }
            }
            return true;
        }

        /** Those who COUNT (bits). */
        int counting() {
            int counting = 0;
            for (int i = 0; i < size; i++) {
                if (people[i].countsWith(Integer.bitCount(beaten[i]))) {
                    counting |= 1 << i;
                }
            }
            return counting;
        }

        /** Who of those given (bits) has BEATEN both: each two have played, so he lost to neither. */
        int mastersAmong(int counting, int one, int other) {
            return counting & ~(beaten[one] | beaten[other] | 1 << one | 1 << other);
        }

        boolean isLawful() {
            return law == 1 ? eachHasMaster() : firstOrphanPair() == NONE;
        }

        private boolean eachHasMaster() {
            int counting = counting();
            for (int i = 0; i < size; i++) {
                if (mastersAmong(counting, i, i) == 0) {
                    return false;
                }
            }
            return true;
        }

        int firstOrphanPair() {
            int counting = counting();
            for (int i = 0; i < size; i++) {
                for (int j = i + 1; j < size; j++) {
                    if (mastersAmong(counting, i, j) == 0) {
                        return 10 * i + j;
                    }
                }
            }
            return NONE;
        }

        int orphanPairs() {
            int counting = counting();
            int orphans = 0;
            for (int i = 0; i < size; i++) {
                for (int j = i + 1; j < size; j++) {
                    if (mastersAmong(counting, i, j) == 0) {
                        orphans++;
                    }
                }
            }
            return orphans;
        }

        boolean isRing(int i, int j, int k) {
            boolean onward = hasBeaten(i, j);
            return hasBeaten(j, k) == onward && hasBeaten(k, i) == onward;
        }

        int allCosts() {
            int costs = 0;
            for (int i = 0; i < size; i++) {
                costs += people[i].cost();
            }
            return costs;
        }

        /** Which of three (0, 1, 2) is not as JUDGED wants it; -1 if all are. */
        int wrongOfThree(int one, int other, int master) {
            if (!has(one)) {
                return 0;
            }
            if (!hasBoth(one, other)) {
                return 1;
            }
            if (!has(master) || (mastersAmong(counting(), one, other) >> master & 1) == 0) {
                return 2;
            }
            return -1;
        }
    }
}
