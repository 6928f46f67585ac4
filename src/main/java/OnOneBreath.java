import java.util.Arrays;

/** Raids on one breath, told, thought through, drawn and done; the words in capitals are those of the document. */
public final class OnOneBreath {
    public static final int BAD = -1, NOT = -2, FULL = -3, STATE = -5, VOID = -2000000000;

    private static final int NOTHING_THERE = -11, OTHER_KIND = -12, NO_SUCH_PLACE = -13, SIZE_BELOW_ZERO = -14;

    private static final int LAST_COLUMN = 8, LAST_ROW = 8, MOST_DEFENDERS = 7;
    private static final int LONGEST_BREATH = 60, GREATEST_MIGHT = 40;
    /** More than all DEFENDERS can hold, and than any raid can bring. */
    private static final int ABOVE_ALL = 1000;
    private static final int HOME = 1, CAUGHT = 2, LOST = 3;
    private static final int STAYS = 0, DEEPER = 1, BACK = 2, LESS = 3, MORE = 4;

    /** The whats of mend() and of(). */
    private static final int COLUMN = 0, ROW = 1, STRONG = 2, IN = 3, BREATH = 4, REACH = 5, MIGHT = 6;
    private static final int START = 7, BAULK = 8, DEEP = 9, LOSES = 10, SHORT = 11, AWAY = 12, THEIRS = 13;
    private static final int[] LEAST = {0, 1, 0, 0, 1, 0, 0, 0, 1, 0, 0, 0, 0, 0};
    private static final int[] MOST = {8, 8, 9, 1, 60, 3, 40, 8, 8, 12, 12, 12, 12, 12};

    private static final int SHELVES = 6;
    private static final int LONGEST_SEARCH = 5;

    private final Half half = new Half();
    private final Scene scene = new Scene();
    private final Search search = new Search();
    private final Odds odds = new Odds();
    private final Sheet sheet = new Sheet();
    private final Match match = new Match();
    private final Changes changes = new Changes();
    private final Bodies bodies = new Bodies();
    private final Shelf[] shelves = new Shelf[SHELVES];
    private final LawReader reader = new LawReader();

    public OnOneBreath() {
        for (int i = 0; i < SHELVES; i++) {
            shelves[i] = new Shelf();
        }
    }

    // ---- raider, defenders

    public int defender(int rc, int strong) {
        if (!isCell(rc, 1) || strong < 0 || strong > MOST[STRONG]) {
            return BAD;
        }
        return half.isFull() ? FULL : half.add(rc % 10, rc / 10, strong);
    }

    public int defenders(int shelf, int i, int n) {
        if (noSuchShelf(shelf) || n < 1 || n > MOST_DEFENDERS) {
            return BAD;
        }
        Shelf from = shelves[shelf];
        if (from.isEmpty()) {
            return 0;
        }
        return from.holdsBytes() ? addFrom(from, i, n) : OTHER_KIND;
    }

    public int mend(int number, int what, int v) {
        if (!half.knows(number, what) || v < LEAST[what] || v > MOST[what]) {
            return BAD;
        }
        int was = half.tell(number, what);
        if (was != v) {
            half.change(number, what, v);
            changes.note(number, what, was, v);
        }
        return was;
    }

    public int of(int number, int what) {
        return half.knows(number, what) ? half.tell(number, what) : BAD;
    }

    public int feed(int letter) {
        if (letter < 0 || letter > 255) {
            return BAD;
        }
        return reader.isFull() ? FULL : reader.add(letter);
    }

    public int law() {
        int fault = reader.read();
        if (fault >= 0) {
            return -100 - fault;
        }
        reader.draft = half.follow(reader.draft);
        return 1;
    }

    public int does(int defender, int rc, int b) {
        if (!half.isInside(defender) || !isCell(rc, 0) || b < 0 || b > 99) {
            return BAD;
        }
        scene.begin(half);
        scene.raiderColumn = rc % 10;
        scene.raiderRow = rc / 10;
        return scene.choice(half, defender, b);
    }

    // ---- raids in thought

    public int raid(int shelf, int what) {
        if (what < 0 || what > 6) {
            return BAD;
        }
        int refusal = refusalOfBytes(shelf);
        if (refusal != 0) {
            return refusal;
        }
        thinkThrough(shelf);
        switch (what) {
            case 0: return scene.end;
            case 1: return scene.seconds;
            case 2: return scene.points();
            case 3: return scene.pointsForThem(half);
            case 4: return scene.touched;
            case 5: return scene.deepest;
            default: return scene.holding;
        }
    }

    public int where(int shelf, int n, int who) {
        if (n < 0 || n > LONGEST_BREATH || who < -1 || who >= half.size) {
            return BAD;
        }
        int refusal = refusalOfBytes(shelf);
        if (refusal != 0) {
            return refusal;
        }
        scene.begin(half);
        scene.breath = Math.min(scene.breath, n);
        scene.play(half, shelves[shelf]);
        return scene.cellOf(who);
    }

    public int best(int n, int k) {
        if (n < 1 || n > LONGEST_SEARCH || k < -1) {
            return VOID;
        }
        if (k >= n) {
            return NOT;
        }
        search.findBest(half, n);
        return k < 0 ? search.worth : search.moves[k];
    }

    public int touch(int defender, int k) {
        if (!half.isInside(defender) || k < -1) {
            return BAD;
        }
        int n = search.findTouch(half, defender);
        if (n == 0 || k >= n) {
            return NOT;
        }
        return k < 0 ? n : search.moves[k];
    }

    public int needs(int shelf) {
        int refusal = refusalOfBytes(shelf);
        if (refusal != 0) {
            return refusal;
        }
        // No second depends on BREATH: what comes HOME at all needs just as many seconds as it took.
        scene.begin(half);
        scene.breath = LONGEST_BREATH;
        scene.play(half, shelves[shelf]);
        return scene.end == HOME ? scene.seconds : NOT;
    }

    public int spared(int shelf) {
        int refusal = refusalOfBytes(shelf);
        if (refusal != 0) {
            return refusal;
        }
        thinkThrough(shelf);
        if (scene.end != CAUGHT) {
            return 0;
        }
        int bits = 0;
        for (int i = 0; i < half.size; i++) {
            if (half.isInside(i)) {
                scene.begin(half);
                scene.inside &= ~(1 << i);
                scene.play(half, shelves[shelf]);
                bits |= scene.end == CAUGHT ? 0 : 1 << i;
            }
        }
        return bits;
    }

    public int stand(int shelf, int defender, int what) {
        if (refusalOfBytes(shelf) != 0 || !half.isInside(defender) || what < 0 || what > 1) {
            return VOID;
        }
        int cell = 0;
        int least = ABOVE_ALL;
        int lowest = -half.pointsForCatch();
        for (int row = 1; row <= LAST_ROW; row++) {
            for (int column = 0; column <= LAST_COLUMN && least > lowest; column++) {
                scene.begin(half);
                scene.columns[defender] = column;
                scene.rows[defender] = row;
                scene.play(half, shelves[shelf]);
                int brings = scene.points() - scene.pointsForThem(half);
                if (brings < least) {
                    least = brings;
                    cell = 10 * row + column;
                }
            }
        }
        return what == 0 ? cell : least;
    }

    public int mightHe(int shelf) {
        int refusal = refusalOfBytes(shelf);
        if (refusal != 0) {
            return refusal;
        }
        // Until he is CAUGHT no second depends on MIGHT: he needs what the strongest hold of a free raid asks.
        scene.begin(half);
        scene.might = ABOVE_ALL;
        scene.play(half, shelves[shelf]);
        return scene.strongestHold > GREATEST_MIGHT ? NOT : scene.strongestHold;
    }

    public int line(int what) {
        switch (what) {
            case 0: return half.corners();
            case 1: return half.alone();
            case 2: return half.chain();
            default: return BAD;
        }
    }

    // ---- odds, sheets

    public int left(int n, int lead, int what) {
        if (notOdds(n, lead, what)) {
            return BAD;
        }
        odds.weigh(half, n, lead, 0, false);
        return what == 0 ? odds.likely : odds.choice;
    }

    public int third(int n, int lead, int e, int what) {
        if (notOdds(n, lead, what) || e < 0 || e > 2) {
            return BAD;
        }
        odds.weigh(half, n, lead, e, true);
        return what == 0 ? odds.likely : odds.choice;
    }

    public int judge(int shelf, int sizes) {
        if (notSizes(sizes)) {
            return BAD;
        }
        int refusal = refusalOfBytes(shelf);
        return refusal != 0 ? refusal : sheet.read(shelves[shelf], sizes);
    }

    public int bench(int shelf, int sizes, int team, int what) {
        if (notSizes(sizes) || team < 0 || team > 1 || what < 0 || what > 2) {
            return BAD;
        }
        int refusal = refusalOfBytes(shelf);
        if (refusal != 0) {
            return refusal;
        }
        sheet.read(shelves[shelf], sizes);
        switch (what) {
            case 0: return sheet.inside[team];
            case 1: return sheet.outLongest(team);
            default: return sheet.points[team];
        }
    }

    public int drawn(int seed, int n, int what) {
        if (n < 1 || n > 50 || what < 0 || what > 1) {
            return BAD;
        }
        int z = seed;
        int points = 0;
        int caught = 0;
        for (int i = 0; i < n; i++) {
            scene.begin(half);
            z = scene.playDrawn(half, z);
            points += scene.points();
            caught += scene.end == CAUGHT ? 1 : 0;
        }
        return what == 0 ? points : caught;
    }

    // ---- in deed

    public int go(int shelf) {
        int refusal = refusalOfBytes(shelf);
        if (refusal != 0) {
            return refusal;
        }
        thinkThrough(shelf);
        match.enter(scene, half);
        return scene.end;
    }

    public int allIn() {
        int everybody = half.everybody();
        int were = Integer.bitCount(half.inside);
        half.letIn(everybody);
        return half.size - were;
    }

    public int led(int what) {
        return what < 0 || what >= Match.LED ? BAD : match.led[what];
    }

    public int image() {
        match.keepImage(half);
        return match.led[Match.RAIDS];
    }

    public int back() {
        return match.layBack(half) ? match.led[Match.RAIDS] : STATE;
    }

    public int undo() {
        return changes.takeBack(half) ? changes.done : STATE;
    }

    public int redo() {
        return changes.doAgain(half) ? changes.kept - changes.done : STATE;
    }

    // ---- acts, shelves

    public int body(int kind) {
        if (kind < 0 || kind >= Bodies.KINDS) {
            return BAD;
        }
        return bodies.isFull() ? FULL : bodies.add(kind);
    }

    public int act(int body, int act, int x) {
        bodies.ran = 0;
        if (!bodies.knows(body) || act < 0 || act >= Bodies.ACTS) {
            return 0;
        }
        return bodies.own(body, act, x, 0);
    }

    public int trace(int i) {
        return i < 0 || i >= bodies.traced() ? BAD : bodies.trace[i];
    }

    public int keep(int shelf, int body) {
        if (noSuchShelf(shelf) || (body != -1 && !bodies.knows(body))) {
            return BAD;
        }
        shelves[shelf].holdBody(body);
        return 1;
    }

    public int row(int shelf, int sort, int n) {
        if (noSuchShelf(shelf) || sort < 0 || sort > Shelf.BOOLEANS || n > Shelf.LONGEST_ROW) {
            return BAD;
        }
        if (n < 0) {
            return SIZE_BELOW_ZERO;
        }
        shelves[shelf].holdRow(sort, n);
        return 1;
    }

    public int put(int shelf, int i, long v) {
        int refusal = refusalOfElement(shelf, i);
        if (refusal != 0) {
            return refusal;
        }
        shelves[shelf].store(i, v);
        return 1;
    }

    public long element(int shelf, int i) {
        return refusalOfElement(shelf, i) != 0 ? Long.MIN_VALUE : shelves[shelf].cells[i];
    }

    public int shift(int shelf, int i, int other, int j, int n) {
        if (noSuchShelf(shelf) || noSuchShelf(other)) {
            return BAD;
        }
        Shelf from = shelves[shelf];
        Shelf to = shelves[other];
        if (from.isEmpty() || to.isEmpty()) {
            return NOTHING_THERE;
        }
        if (!from.holdsRow() || !to.holdsRow() || from.sort != to.sort) {
            return OTHER_KIND;
        }
        if (!from.reaches(i, n) || !to.reaches(j, n)) {
            return NO_SUCH_PLACE;
        }
        System.arraycopy(from.cells, i, to.cells, j, n);
        return n;
    }

    public int taken(int shelf, int k) {
        if (noSuchShelf(shelf) || k < 0 || k >= Bodies.KINDS) {
            return BAD;
        }
        Shelf from = shelves[shelf];
        if (from.isEmpty()) {
            return NOTHING_THERE;
        }
        if (from.holdsRow() || !bodies.knows(from.bodyNumber)) {
            return OTHER_KIND;
        }
        int kind = bodies.kinds[from.bodyNumber];
        return Bodies.isUnder(kind, k) ? kind : OTHER_KIND;
    }

    public int count(int what) {
        switch (what) {
            case 0: return half.size;
            case 1: return Integer.bitCount(half.inside);
            case 2: return reader.length;
            case 3: return changes.done;
            case 4: return bodies.size;
            case 5: return bodies.ran;
            default: return BAD;
        }
    }

    // ---- what the calls share

    private static boolean isCell(int rc, int leastRow) {
        return rc >= 10 * leastRow && rc / 10 <= LAST_ROW && rc % 10 <= LAST_COLUMN;
    }

    private static boolean noSuchShelf(int shelf) {
        return shelf < 0 || shelf >= SHELVES;
    }

    private static boolean notOdds(int n, int lead, int what) {
        return n < 0 || n > Odds.MOST_RAIDS || lead < -30 || lead > 30 || what < 0 || what > 1;
    }

    private static boolean notSizes(int sizes) {
        int ours = sizes / 10;
        int theirs = sizes % 10;
        return ours < 1 || ours > Sheet.MOST || theirs < 1 || theirs > Sheet.MOST;
    }

    /** 0, if there is a ROW of bytes. */
    private int refusalOfBytes(int shelf) {
        if (noSuchShelf(shelf)) {
            return BAD;
        }
        if (shelves[shelf].isEmpty()) {
            return NOTHING_THERE;
        }
        return shelves[shelf].holdsBytes() ? 0 : OTHER_KIND;
    }

    /** 0, if there is such an element. */
    private int refusalOfElement(int shelf, int i) {
        if (noSuchShelf(shelf)) {
            return BAD;
        }
        if (shelves[shelf].isEmpty()) {
            return NOTHING_THERE;
        }
        if (!shelves[shelf].holdsRow()) {
            return OTHER_KIND;
        }
        return shelves[shelf].reaches(i, 1) ? 0 : NO_SUCH_PLACE;
    }

    private int addFrom(Shelf from, int i, int n) {
        int came = 0;
        int at = i;
        while (came < n && !half.isFull() && from.reaches(at, 3)) {
            long column = from.cells[at];
            long row = from.cells[at + 1];
            long strong = from.cells[at + 2];
            if (column < 0 || column > LAST_COLUMN || row < 1 || row > LAST_ROW
                    || strong < 0 || strong > MOST[STRONG]) {
                return came;
            }
            half.add((int) column, (int) row, (int) strong);
            came++;
            at += 3;
        }
        return came;
    }

    private void thinkThrough(int shelf) {
        scene.begin(half);
        scene.play(half, shelves[shelf]);
    }

    /** What stands while no raid runs: DEFENDERS, THE RAIDER, ODDS, THE LAW. */
    private static final class Half {
        final int[] columns = new int[MOST_DEFENDERS];
        final int[] rows = new int[MOST_DEFENDERS];
        final int[] strongs = new int[MOST_DEFENDERS];
        /** By the whats of mend(); those of DEFENDERS are not used. */
        final int[] numbers = {0, 0, 0, 0, 20, 1, 9, 4, 3, 3, 3, 1, 1, 2};
        int inside;
        int size;
        /** Another one whenever something has changed, so that what was found before is known to be old. */
        int stamp;
        Law inForce = new Law();

        boolean isFull() {
            return size >= MOST_DEFENDERS;
        }

        /** Asked only while it is not FULL. */
        int add(int column, int row, int strong) {
            int number = size;
            columns[number] = column;
            rows[number] = row;
            strongs[number] = strong;
            inside |= 1 << number;
            size++;
            stamp++;
            return number;
        }

        boolean exists(int number) {
            return number >= 0 && number < size;
        }

        boolean isInside(int number) {
            return exists(number) && (inside >> number & 1) == 1;
        }

        boolean knows(int number, int what) {
            if (what < COLUMN || what > THEIRS) {
                return false;
            }
            return what <= IN ? exists(number) : number == 0;
        }

        /** Asked only for what it knows. */
        int tell(int number, int what) {
            switch (what) {
                case COLUMN: return columns[number];
                case ROW: return rows[number];
                case STRONG: return strongs[number];
                case IN: return inside >> number & 1;
                default: return numbers[what];
            }
        }

        /** Asked only for what it knows. */
        void change(int number, int what, int v) {
            stamp++;
            switch (what) {
                case COLUMN:
                    columns[number] = v;
                    break;
                case ROW:
                    rows[number] = v;
                    break;
                case STRONG:
                    strongs[number] = v;
                    break;
                case IN:
                    inside = inside & ~(1 << number) | v << number;
                    break;
                default:
                    numbers[what] = v;
            }
        }

        int everybody() {
            return (1 << size) - 1;
        }

        void letIn(int bits) {
            inside = bits;
            stamp++;
        }

        /** Takes a new law and gives the old one, to be written over. */
        Law follow(Law next) {
            Law old = inForce;
            inForce = next;
            stamp++;
            return old;
        }

        /** What a raid brings THEM that is CAUGHT or LOST; no raid brings them more. */
        int pointsForCatch() {
            return Integer.bitCount(inside) <= 3 ? 2 : 1;
        }

        int corners() {
            int bits = 0;
            for (int i = 0; i < size; i++) {
                if (isInside(i) && (columns[i] == 0 || columns[i] == LAST_COLUMN)) {
                    bits |= 1 << i;
                }
            }
            return bits;
        }

        int alone() {
            int bits = 0;
            for (int i = 0; i < size; i++) {
                if (isInside(i) && besides(i) == 1 << i) {
                    bits |= 1 << i;
                }
            }
            return bits;
        }

        int chain() {
            int longest = 0;
            for (int i = 0; i < size; i++) {
                if (isInside(i)) {
                    longest = Math.max(longest, Integer.bitCount(hangingTogether(i)));
                }
            }
            return longest;
        }

        private int hangingTogether(int first) {
            int bits = 1 << first;
            // Each round adds at least one or nothing is left to add.
            for (int round = 0; round < size; round++) {
                for (int i = 0; i < size; i++) {
                    if ((bits >> i & 1) == 1) {
                        bits |= besides(i);
                    }
                }
            }
            return bits;
        }

        /** Those IN no farther than 1 from one that is IN, itself too. */
        private int besides(int one) {
            int bits = 0;
            for (int i = 0; i < size; i++) {
                int far = Math.abs(columns[i] - columns[one]) + Math.abs(rows[i] - rows[one]);
                if (isInside(i) && far <= 1) {
                    bits |= 1 << i;
                }
            }
            return bits;
        }
    }

    /** A raid while it runs. */
    private static final class Scene {
        final int[] columns = new int[MOST_DEFENDERS];
        final int[] rows = new int[MOST_DEFENDERS];
        private final int[] names = new int[LawReader.NAMES];
        int inside;
        int raiderColumn;
        int raiderRow;
        int breath;
        int might;
        int seconds;
        int deepest;
        int touched;
        int holding;
        int strongestHold;
        int end;

        void begin(Half half) {
            copyPlaces(half.columns, half.rows);
            inside = half.inside;
            raiderColumn = half.numbers[START];
            raiderRow = 0;
            breath = half.numbers[BREATH];
            might = half.numbers[MIGHT];
            seconds = 0;
            deepest = 0;
            touched = 0;
            holding = 0;
            strongestHold = 0;
            end = 0;
        }

        void goOnFrom(Scene other) {
            copyPlaces(other.columns, other.rows);
            inside = other.inside;
            raiderColumn = other.raiderColumn;
            raiderRow = other.raiderRow;
            breath = other.breath;
            might = other.might;
            seconds = other.seconds;
            deepest = other.deepest;
            touched = other.touched;
            holding = other.holding;
            strongestHold = other.strongestHold;
            end = other.end;
        }

        private void copyPlaces(int[] fromColumns, int[] fromRows) {
            for (int i = 0; i < MOST_DEFENDERS; i++) {
                columns[i] = fromColumns[i];
                rows[i] = fromRows[i];
            }
        }

        void play(Half half, Shelf moves) {
            for (int i = 0; i < breath && end == 0; i++) {
                second(half, moves.moveAt(i));
            }
            endOfBreath();
        }

        /** The z behind the raid. */
        int playDrawn(Half half, int z) {
            int next = z;
            for (int i = 0; i < breath && end == 0; i++) {
                next = next * 1103515245 + 12345;
                boolean free = deepest < half.numbers[BAULK] || (next >>> 16 & 1) == 0;
                second(half, free ? (next >>> 8) % 5 : BACK);
            }
            endOfBreath();
            return next;
        }

        /** LOST, if moves back save him no more: points hold then, seconds do not. */
        void giveUpIfTooLate() {
            // Who never left stays, and who is too deep gets no farther than LOST or CAUGHT, which bring the same.
            if (end == 0 && (raiderRow == 0 || raiderRow > breath - seconds)) {
                end = LOST;
            }
        }

        private void endOfBreath() {
            if (end == 0) {
                end = LOST;
            }
        }

        void second(Half half, int move) {
            boolean wasBeyond = raiderRow > 0;
            int passed = seconds;
            step(move);
            seconds++;
            holding = 0;
            if (raiderRow == 0 && wasBeyond) {
                end = HOME;
                return;
            }
            deepest = Math.max(deepest, raiderRow);
            reachOut(half);
            int hold = theyAct(half, passed);
            strongestHold = Math.max(strongestHold, hold);
            if (hold > might) {
                end = CAUGHT;
            }
        }

        private void step(int move) {
            if (move == DEEPER && raiderRow < LAST_ROW) {
                raiderRow++;
            } else if (move == BACK && raiderRow > 0) {
                raiderRow--;
            } else if (move == LESS && raiderColumn > 0) {
                raiderColumn--;
            } else if (move == MORE && raiderColumn < LAST_COLUMN) {
                raiderColumn++;
            }
        }

        private void reachOut(Half half) {
            if (raiderRow < 1) {
                return;
            }
            int reach = half.numbers[REACH];
            for (int i = 0; i < half.size; i++) {
                if (isInside(i) && farFromRaider(i) <= reach) {
                    touched |= 1 << i;
                }
            }
        }

        /** How STRONG all are together who HOLD. */
        private int theyAct(Half half, int passed) {
            int hold = 0;
            for (int i = 0; i < half.size; i++) {
                if (!isInside(i)) {
                    continue;
                }
                int choice = choice(half, i, passed);
                if (choice == 1) {
                    comeNearer(i);
                } else if (choice == 2) {
                    rows[i] = Math.min(LAST_ROW, rows[i] + 1);
                } else if (choice == 3 && raiderRow >= 1 && farFromRaider(i) <= 1) {
                    holding |= 1 << i;
                    hold += half.strongs[i];
                }
            }
            return hold;
        }

        /** What one of the DEFENDERS does, as all stand, behind so many seconds. */
        int choice(Half half, int who, int passed) {
            int far = farFromRaider(who);
            if (half.inForce.isEmpty()) {
                return plainChoice(far);
            }
            names[0] = far;
            names[1] = raiderRow;
            names[2] = passed;
            names[3] = half.strongs[who];
            names[4] = Integer.bitCount(inside);
            names[5] = half.inForce.asksNeighbours ? neighbours(who, half.size) : 0;
            return Math.abs(half.inForce.worth(names) % 4);
        }

        private int plainChoice(int far) {
            if (raiderRow >= 4) {
                return far <= 1 ? 3 : 1;
            }
            return far <= 2 ? 2 : 0;
        }

        private int neighbours(int who, int size) {
            int near = 0;
            for (int i = 0; i < size; i++) {
                int far = Math.abs(columns[i] - columns[who]) + Math.abs(rows[i] - rows[who]);
                if (isInside(i) && far == 1) {
                    near++;
                }
            }
            return near;
        }

        private void comeNearer(int who) {
            int column = columns[who];
            int row = rows[who];
            if (column != raiderColumn) {
                column += column < raiderColumn ? 1 : -1;
            } else if (row != raiderRow) {
                row += row < raiderRow ? 1 : -1;
            }
            boolean ontoHim = column == raiderColumn && row == raiderRow;
            if (row >= 1 && !ontoHim) {
                columns[who] = column;
                rows[who] = row;
            }
        }

        private boolean isInside(int who) {
            return (inside >> who & 1) == 1;
        }

        private int farFromRaider(int who) {
            return Math.abs(columns[who] - raiderColumn) + Math.abs(rows[who] - raiderRow);
        }

        /** The RAIDER's, or that of a DEFENDER there is. */
        int cellOf(int who) {
            return who < 0 ? 10 * raiderRow + raiderColumn : 10 * rows[who] + columns[who];
        }

        int points() {
            return end == HOME ? Integer.bitCount(touched) : 0;
        }

        int pointsForThem(Half half) {
            if (end == HOME) {
                return touched == 0 && deepest < half.numbers[BAULK] ? 1 : 0;
            }
            return half.pointsForCatch();
        }
    }

    /** BEST and TOUCH: all moves of few seconds by numbers, each beginning of them played once. */
    private static final class Search {
        private static final int NOBODY = -1, BELOW_ALL = -1000;

        private final Scene[] levels = new Scene[LONGEST_SEARCH + 1];
        private final int[] trial = new int[LONGEST_SEARCH];
        final int[] moves = new int[LONGEST_SEARCH];
        int worth;
        private int enough;
        private int length;
        private int wanted;
        private boolean known;
        private int stamp;

        Search() {
            for (int i = 0; i < levels.length; i++) {
                levels[i] = new Scene();
            }
        }

        void findBest(Half half, int n) {
            if (!isFound(half, NOBODY) || length != n) {
                prepare(half, n, NOBODY);
                explore(half, 0);
            }
        }

        /** How many seconds; 0: there are no such moves. */
        int findTouch(Half half, int who) {
            if (!isFound(half, who)) {
                worth = 0;
                for (int n = 1; n <= LONGEST_SEARCH && worth == 0; n++) {
                    prepare(half, n, who);
                    explore(half, 0);
                }
            }
            return worth == 1 ? length : 0;
        }

        /** The same is asked move by move: what was found stays, as long as nothing has changed. */
        private boolean isFound(Half half, int who) {
            return known && stamp == half.stamp && wanted == who;
        }

        private void prepare(Half half, int n, int who) {
            known = true;
            stamp = half.stamp;
            wanted = who;
            length = n;
            worth = who == NOBODY ? BELOW_ALL : 0;
            enough = who == NOBODY ? Integer.bitCount(half.inside) : 1;
            levels[0].begin(half);
        }

        private void explore(Half half, int level) {
            if (level >= length || level >= LONGEST_SEARCH) {
                return;
            }
            for (int move = STAYS; move <= MORE && worth < enough; move++) {
                trial[level] = move;
                goOn(half, level);
            }
        }

        /** Asked only for a level there is: by its move, and by all that may follow, or back. */
        private void goOn(Half half, int level) {
            Scene next = levels[level + 1];
            next.goOnFrom(levels[level]);
            next.second(half, trial[level]);
            if (next.end == 0 && next.seconds < next.breath && level + 1 < length) {
                explore(half, level + 1);
                return;
            }
            next.giveUpIfTooLate();
            for (int i = 0; i < LAST_ROW && next.end == 0; i++) {
                next.second(half, BACK);
            }
            compare(half, next, level);
        }

        private void compare(Half half, Scene reached, int level) {
            int found;
            if (wanted == NOBODY) {
                found = reached.points() - reached.pointsForThem(half);
            } else {
                found = reached.end == HOME && (reached.touched >> wanted & 1) == 1 ? 1 : 0;
            }
            if (found > worth) {
                worth = found;
                for (int i = 0; i < LONGEST_SEARCH; i++) {
                    // Behind the end of a raid all moves are alike, and 0 is the first.
                    moves[i] = i <= level ? trial[i] : STAYS;
                }
            }
        }
    }

    /** A law as it is worked out: operands first, then what joins them. */
    private static final class Law {
        static final int NUMBER = 0, NAME = 1, UNLESS_SKIP = 2, GIVE = 3, NO = 4, MINUS = 5, FIRST_JOINER = 6;
        /** More than the bytes of a TAPE can ask for. */
        private static final int LONGEST = 128;

        private final int[] steps = new int[LONGEST];
        private final int[] details = new int[LONGEST];
        private final int[] stack = new int[LONGEST];
        private int size;
        boolean asksNeighbours;

        void clear() {
            size = 0;
            asksNeighbours = false;
        }

        boolean isEmpty() {
            return size == 0;
        }

        /** The place of the step. */
        int add(int step, int detail) {
            int place = size;
            if (place < LONGEST) {
                steps[place] = step;
                details[place] = detail;
                size++;
            }
            return place;
        }

        void skipToEndFrom(int place) {
            if (place >= 0 && place < LONGEST) {
                details[place] = size;
            }
        }

        int worth(int[] names) {
            int top = 0;
            int at = 0;
            while (at < size) {
                int step = steps[at];
                int detail = details[at];
                at++;
                if (step <= NAME) {
                    if (top >= LONGEST) {
                        return 0;
                    }
                    stack[top] = step == NUMBER ? detail : names[detail];
                    top++;
                } else if (top < 1) {
                    return 0;
                } else if (step == GIVE) {
                    return stack[top - 1];
                } else if (step == UNLESS_SKIP) {
                    top--;
                    // Only ever forward.
                    at = stack[top] != 0 ? at : Math.max(at, detail);
                } else if (step == NO) {
                    stack[top - 1] = stack[top - 1] == 0 ? 1 : 0;
                } else if (step == MINUS) {
                    stack[top - 1] = -stack[top - 1];
                } else if (top < 2) {
                    return 0;
                } else {
                    top--;
                    stack[top - 1] = joined(step - FIRST_JOINER, stack[top - 1], stack[top]);
                }
            }
            return 0;
        }

        /** By the places in LawReader.JOINERS. */
        private static int joined(int joiner, int a, int b) {
            switch (joiner) {
                case 0: return a != 0 || b != 0 ? 1 : 0;
                case 1: return a != 0 && b != 0 ? 1 : 0;
                case 2: return a < b ? 1 : 0;
                case 3: return a == b ? 1 : 0;
                case 4: return a > b ? 1 : 0;
                case 5: return a + b;
                case 6: return a - b;
                case 7: return a * b;
                case 8: return b == 0 ? 0 : a / b;
                default: return b == 0 ? 0 : a % b;
            }
        }
    }

    /** THE TAPE: reads its TEXT into a law, or finds its FAULT. */
    private static final class LawReader {
        private static final int LONGEST_TAPE = 120;
        static final int NAMES = 6;
        private static final String NAME_SIGNS = "drbsnc";
        private static final int NEIGHBOURS = 5;
        private static final String JOINERS = "|&<=>+-*/%";
        /** Which joiners bind at which rank; those of a higher one bind more tightly. */
        private static final int[] RANKS = {0, 1, 2, 2, 2, 3, 3, 4, 4, 4};
        private static final int COMPARES = 2, HIGHEST = 4;
        private static final int MOST_DIGITS = 4, MOST_OPEN = 6;

        private final int[] tape = new int[LONGEST_TAPE];
        int length;
        private int place;
        private int fault;
        /** The law that is read: another one, once this one is in force. */
        Law draft = new Law();

        boolean isFull() {
            return length >= LONGEST_TAPE;
        }

        /** Asked only while it is not FULL. */
        int add(int letter) {
            tape[length] = letter;
            length++;
            return length;
        }

        /** The FAULT; -1, if it is a TEXT. THE TAPE is empty then. */
        int read() {
            place = 0;
            fault = -1;
            draft.clear();
            readLine();
            for (int i = 0; i < length && takes(';'); i++) {
                readLine();
            }
            if (place < length) {
                fail();
            }
            length = 0;
            return fault;
        }

        private void readLine() {
            readRank(0, 0);
            if (takes('?')) {
                int skip = draft.add(Law.UNLESS_SKIP, 0);
                readRank(0, 0);
                draft.add(Law.GIVE, 0);
                draft.skipToEndFrom(skip);
            } else {
                draft.add(Law.GIVE, 0);
            }
        }

        private void readRank(int rank, int open) {
            if (rank > HIGHEST) {
                readOperand(open);
                return;
            }
            readRank(rank + 1, open);
            for (int i = 0; i < length; i++) {
                int joiner = takesJoiner(rank);
                if (joiner < 0) {
                    return;
                }
                readRank(rank + 1, open);
                draft.add(Law.FIRST_JOINER + joiner, 0);
                if (rank == COMPARES) {
                    return;
                }
            }
        }

        private void readOperand(int open) {
            int sign = sign();
            if (isDigit(sign)) {
                readNumber();
            } else if ((sign == '(' || sign == '!' || sign == '-') && open < MOST_OPEN) {
                readOpened(open + 1);
            } else {
                readName();
            }
        }

        private void readOpened(int open) {
            if (takes('(')) {
                readRank(0, open);
                if (!takes(')')) {
                    fail();
                }
            } else if (takes('!')) {
                readOperand(open);
                draft.add(Law.NO, 0);
            } else if (takes('-')) {
                readOperand(open);
                draft.add(Law.MINUS, 0);
            }
        }

        private void readNumber() {
            int number = 0;
            for (int i = 0; i < MOST_DIGITS && isDigit(sign()); i++) {
                number = number * 10 + sign() - '0';
                place++;
            }
            draft.add(Law.NUMBER, number);
        }

        private void readName() {
            int sign = sign();
            int name = sign < 0 ? -1 : NAME_SIGNS.indexOf((char) sign);
            if (name < 0) {
                fail();
                return;
            }
            place++;
            draft.add(Law.NAME, name);
            if (name == NEIGHBOURS) {
                draft.asksNeighbours = true;
            }
        }

        private static boolean isDigit(int sign) {
            return sign >= '0' && sign <= '9';
        }

        /** -1 behind the end, and behind a fault, where nothing more is taken. */
        private int sign() {
            return fault < 0 && place >= 0 && place < length ? tape[place] : -1;
        }

        private boolean takes(char wanted) {
            boolean there = sign() == wanted;
            place += there ? 1 : 0;
            return there;
        }

        /** Its place in JOINERS; -1: none that binds at this rank is there. */
        private int takesJoiner(int rank) {
            int sign = sign();
            int joiner = sign < 0 ? -1 : JOINERS.indexOf((char) sign);
            if (joiner < 0 || RANKS[joiner] != rank) {
                return -1;
            }
            place++;
            return joiner;
        }

        private void fail() {
            if (fault < 0) {
                fault = place;
            }
        }
    }

    /** LEFT and THIRD, from the last raid back to the first. */
    private static final class Odds {
        static final int MOST_RAIDS = 20;
        private static final int CERTAIN = 1000000, TWELFTHS = 12;
        private static final int MOST_EMPTY = 2;
        /** One for each lead there can be: two lost and one won a round. */
        private static final int LEADS = 3 * MOST_RAIDS + 1;

        private final int[] ahead = new int[(MOST_EMPTY + 1) * LEADS];
        private final int[] theyGo = new int[(MOST_EMPTY + 1) * LEADS];
        int likely;
        int choice;

        /** Leads stand at their places from 2 * n below the told one on. */
        void weigh(Half half, int n, int lead, int empty, boolean thirdMust) {
            int last = 3 * n;
            for (int e = 0; e <= MOST_EMPTY; e++) {
                for (int place = 0; place <= last; place++) {
                    int v = lead - 2 * n + place;
                    ahead[e * LEADS + place] = v > 0 ? CERTAIN : v == 0 ? CERTAIN / 2 : 0;
                }
            }
            choice = 0;
            for (int round = 1; round <= n; round++) {
                // What the raids so far can have made of the lead, and one more for each that ours can bring or lose.
                int from = 2 * round;
                int to = last - round;
                theirTurn(half.numbers[THEIRS], from - 1, to + 1);
                ourTurn(half, from, to, thirdMust, empty);
            }
            likely = ahead[empty * LEADS + 2 * n];
        }

        private void theirTurn(int theirs, int from, int to) {
            for (int e = 0; e <= MOST_EMPTY; e++) {
                for (int place = from; place <= to; place++) {
                    int at = e * LEADS + place;
                    theyGo[at] = (theirs * ahead[at - 1] + (TWELFTHS - theirs) * ahead[at]) / TWELFTHS;
                }
            }
        }

        private void ourTurn(Half half, int from, int to, boolean thirdMust, int empty) {
            int[] numbers = half.numbers;
            for (int e = 0; e <= MOST_EMPTY; e++) {
                for (int place = from; place <= to; place++) {
                    int ifEmpty = ifEmpty(e, place, thirdMust);
                    int deep = ofRaid(numbers[DEEP], numbers[LOSES], place, ifEmpty);
                    int brief = ofRaid(numbers[SHORT], numbers[AWAY], place, ifEmpty);
                    ahead[e * LEADS + place] = Math.max(deep, brief);
                    if (e == empty) {
                        // The place told first stands alone in the last round, and is the last that sets this.
                        choice = deep > brief ? 1 : 0;
                    }
                }
            }
        }

        private int ifEmpty(int e, int place, boolean thirdMust) {
            if (!thirdMust) {
                return theyGo[e * LEADS + place];
            }
            return e == MOST_EMPTY ? theyGo[place - 1] : theyGo[(e + 1) * LEADS + place];
        }

        private int ofRaid(int brings, int loses, int place, int ifEmpty) {
            int lost = Math.min(loses, TWELFTHS - brings);
            int rest = TWELFTHS - brings - lost;
            return (brings * theyGo[place + 1] + lost * theyGo[place - 1] + rest * ifEmpty) / TWELFTHS;
        }
    }

    /** THE BENCH: a SHEET read as far as it can be. */
    private static final class Sheet {
        static final int MOST = 7;
        private static final int RAIDER_OUT = 8;

        final int[] inside = new int[2];
        final int[] points = new int[2];
        private final int[] out = new int[2];
        /** Of each team those out, the first out first. */
        private final int[] waiting = new int[2 * MOST];

        /** JUDGED. */
        int read(Shelf bytes, int sizes) {
            inside[0] = (1 << sizes / 10) - 1;
            inside[1] = (1 << sizes % 10) - 1;
            Arrays.fill(points, 0);
            Arrays.fill(out, 0);
            for (int i = 0; i < bytes.size; i++) {
                int team = i & 1;
                if (!canBe(team, bytes.cells[i])) {
                    return i;
                }
                happen(team, (int) bytes.cells[i]);
            }
            return NOT;
        }

        int outLongest(int team) {
            return out[team] == 0 ? NOT : waiting[team * MOST];
        }

        private boolean canBe(int team, long raid) {
            if (inside[team] == 0 || raid < 0 || raid > RAIDER_OUT) {
                return false;
            }
            return raid == RAIDER_OUT || raid <= Integer.bitCount(inside[1 - team]);
        }

        private void happen(int team, int raid) {
            int others = 1 - team;
            if (raid == RAIDER_OUT) {
                leave(team);
                comeIn(others);
                points[others]++;
                return;
            }
            for (int i = 0; i < raid; i++) {
                leave(others);
                comeIn(team);
            }
            points[team] += raid;
        }

        private void leave(int team) {
            int number = 0;
            while (number < MOST && (inside[team] >> number & 1) == 0) {
                number++;
            }
            if (number < MOST && out[team] < MOST) {
                inside[team] &= ~(1 << number);
                waiting[team * MOST + out[team]] = number;
                out[team]++;
            }
        }

        private void comeIn(int team) {
            if (out[team] == 0) {
                return;
            }
            int first = team * MOST;
            inside[team] |= 1 << waiting[first];
            out[team]--;
            for (int i = 0; i < out[team]; i++) {
                waiting[first + i] = waiting[first + i + 1];
            }
        }
    }

    /** IN DEED: what LED tells, and AN IMAGE. */
    private static final class Match {
        static final int LED = 5;
        static final int RAIDS = 0, POINTS = 1, FOR_THEM = 2, SECONDS = 3, CATCHES = 4;

        final int[] led = new int[LED];
        private final int[] imageLed = new int[LED];
        private int imageInside;
        /** Those there were as it was kept (bits). */
        private int imageOf;
        private boolean hasImage;

        void enter(Scene scene, Half half) {
            int forThem = scene.pointsForThem(half);
            led[RAIDS]++;
            led[POINTS] += scene.points();
            led[FOR_THEM] += forThem;
            led[SECONDS] += scene.seconds;
            led[CATCHES] += scene.end == CAUGHT ? 1 : 0;
            int inside = scene.end == HOME ? half.inside & ~scene.touched : half.inside;
            for (int i = 0; i < forThem; i++) {
                int out = half.everybody() & ~inside;
                inside |= out & -out;
            }
            half.letIn(inside);
        }

        void keepImage(Half half) {
            System.arraycopy(led, 0, imageLed, 0, LED);
            imageInside = half.inside;
            imageOf = half.everybody();
            hasImage = true;
        }

        boolean layBack(Half half) {
            if (hasImage) {
                System.arraycopy(imageLed, 0, led, 0, LED);
                half.letIn(half.inside & ~imageOf | imageInside);
            }
            return hasImage;
        }
    }

    /** CHANGES that can be UNDONE and DONE AGAIN. */
    private static final class Changes {
        private static final int MOST_KEPT = 40;

        private final int[] numbers = new int[MOST_KEPT];
        private final int[] whats = new int[MOST_KEPT];
        private final int[] before = new int[MOST_KEPT];
        private final int[] after = new int[MOST_KEPT];
        int done;
        int kept;

        void note(int number, int what, int was, int v) {
            if (done >= MOST_KEPT) {
                forgetFirst();
            }
            numbers[done] = number;
            whats[done] = what;
            before[done] = was;
            after[done] = v;
            done++;
            kept = done;
        }

        private void forgetFirst() {
            done = MOST_KEPT - 1;
            System.arraycopy(numbers, 1, numbers, 0, done);
            System.arraycopy(whats, 1, whats, 0, done);
            System.arraycopy(before, 1, before, 0, done);
            System.arraycopy(after, 1, after, 0, done);
        }

        boolean takeBack(Half half) {
            if (done <= 0) {
                return false;
            }
            done--;
            half.change(numbers[done], whats[done], before[done]);
            return true;
        }

        boolean doAgain(Half half) {
            if (done >= kept) {
                return false;
            }
            half.change(numbers[done], whats[done], after[done]);
            done++;
            return true;
        }
    }

    /** BODIES and their ACTS, which come from their own KIND or from above. */
    private static final class Bodies {
        static final int KINDS = 8, ACTS = 4;
        private static final int GOES = 0, TOUCHES = 1, HOLDS = 2;
        private static final int MOST_BODIES = 50, MOST_TRACED = 24, DEEPEST = 40;
        /** The KIND above each. */
        private static final int[] ABOVE = {-1, 0, 0, 2, 1, 3, 0, 6};
        /** By KIND and ACT: the number of the KIND's own body; 0: it has none. */
        private static final int[] OWN = {
            1, 10, 11, 2,
            20, 0, 0, 0,
            0, 30, 0, 0,
            0, 41, 40, 0,
            0, 0, 0, 50,
            0, 0, 60, 61,
            70, 0, 0, 0,
            81, 80, 0, 0};

        final int[] kinds = new int[MOST_BODIES];
        final int[] trace = new int[MOST_TRACED];
        int size;
        int ran;

        boolean isFull() {
            return size >= MOST_BODIES;
        }

        /** Asked only while it is not FULL. */
        int add(int kind) {
            kinds[size] = kind;
            size++;
            return size - 1;
        }

        boolean knows(int number) {
            return number >= 0 && number < size;
        }

        int traced() {
            return Math.min(ran, MOST_TRACED);
        }

        static boolean isUnder(int kind, int wanted) {
            int k = kind;
            for (int i = 0; i < KINDS && k >= 0; i++) {
                if (k == wanted) {
                    return true;
                }
                k = ABOVE[k];
            }
            return false;
        }

        /** An ACT of a BODY there is, by its own KIND. */
        private int own(int n, int act, int x, int depth) {
            return run(n, kinds[n], act, x, depth + 1);
        }

        /** An ACT by the nearest KIND that has a body for it, from a KIND on. */
        private int run(int n, int from, int act, int x, int depth) {
            int k = from;
            for (int i = 0; i < KINDS && k >= 0 && OWN[k * ACTS + act] == 0; i++) {
                k = ABOVE[k];
            }
            if (k < 0 || depth > DEEPEST) {
                return 0;
            }
            int number = OWN[k * ACTS + act];
            begin(number);
            switch (number) {
                case 1: return x + n;
                case 2: return own(n, TOUCHES, x, depth) - own(n, HOLDS, 1, depth);
                case 10: return own(n, GOES, x, depth) * 2;
                case 11: return x ^ n;
                case 41: return run(n, ABOVE[k], act, x + 1, depth + 1);
                default: return uponAbove(number, run(n, ABOVE[k], act, x, depth + 1), n, depth);
            }
        }

        /** What a body makes of the answer from above. */
        private int uponAbove(int number, int answer, int n, int depth) {
            switch (number) {
                case 20: return answer + 3;
                case 30: return -answer;
                case 40: return answer * 3;
                case 50: return answer ^ 5;
                case 60: return answer - own(n, GOES, 2, depth);
                case 61: return answer + 1;
                case 70: return answer * 2;
                case 80: return answer + own(n, HOLDS, 2, depth);
                case 81: return answer - 1;
                default: return answer;
            }
        }

        private void begin(int number) {
            if (ran < MOST_TRACED) {
                trace[ran] = number;
            }
            ran++;
        }
    }

    /** One of the SHELVES. */
    private static final class Shelf {
        static final int BYTES = 0, SHORTS = 1, INTS = 2, LONGS = 3, BOOLEANS = 4;
        static final int LONGEST_ROW = 60;
        private static final int HOLDS_NOTHING = 0, HOLDS_BODY = 1, HOLDS_ROW = 2;

        final long[] cells = new long[LONGEST_ROW];
        int size;
        int sort;
        int bodyNumber;
        private int holds;

        boolean isEmpty() {
            return holds == HOLDS_NOTHING;
        }

        boolean holdsRow() {
            return holds == HOLDS_ROW;
        }

        boolean holdsBytes() {
            return holds == HOLDS_ROW && sort == BYTES;
        }

        /** Nothing, if it is -1. */
        void holdBody(int number) {
            holds = number < 0 ? HOLDS_NOTHING : HOLDS_BODY;
            bodyNumber = number;
        }

        void holdRow(int ofSort, int n) {
            holds = HOLDS_ROW;
            sort = ofSort;
            size = n;
            Arrays.fill(cells, 0L);
        }

        /** Whether n elements stand there from place i on. */
        boolean reaches(int i, int n) {
            return i >= 0 && n >= 0 && i <= size && n <= size - i;
        }

        /** Asked only for a place there is. */
        void store(int i, long v) {
            switch (sort) {
                case BYTES:
                    cells[i] = (byte) v;
                    break;
                case SHORTS:
                    cells[i] = (short) v;
                    break;
                case INTS:
                    cells[i] = (int) v;
                    break;
                case LONGS:
                    cells[i] = v;
                    break;
                default:
                    cells[i] = v != 0 ? 1 : 0;
            }
        }

        /** The move of a second; what lacks, and what is none: he stays. */
        int moveAt(int second) {
            if (second < 0 || second >= size || cells[second] < STAYS || cells[second] > MORE) {
                return STAYS;
            }
            return (int) cells[second];
        }
    }
}
