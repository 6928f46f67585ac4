import java.util.ArrayList;
import java.util.List;

/**
 * Every refused call of every promise: what it answers, which answer comes first of several, and that it changes nothing.
 * For the last, two objects are made alike, one of them is asked, and all that can be seen of both is compared.
 */
public final class RefusalsTest {
    private static final int BAD = -1, NOT = -2, FULL = -3, STATE = -5, VOID = -2000000000;
    private static final int NOTHING = -11, OTHER = -12, PLACE = -13, SIZE = -14;
    private static final int LEAST = Integer.MIN_VALUE, MOST = Integer.MAX_VALUE;
    /** The shelves of an object that has lived. */
    private static final int BYTES = 0, SHORTS = 1, INTS = 2, BODY = 3, NONE = 4, BOOLEANS = 5;
    private static int wrong = 0;
    private static int asked = 0;

    private interface Maker {
        OnOneBreath make();
    }

    private interface Call {
        long on(OnOneBreath x);
    }

    /** The promise and the state in which the refusals that follow are asked. */
    private static int promise;
    private static Maker maker = OnOneBreath::new;

    private static void in(int number, Maker state) {
        promise = number;
        maker = state;
    }

    private static void refused(String what, long want, Call call) {
        asked++;
        OnOneBreath one = maker.make();
        OnOneBreath other = maker.make();
        long got = call.on(one);
        if (got != want) {
            fault(what + " answered " + got + ", due is " + want);
        }
        List<Long> a = seenOf(one);
        List<Long> b = seenOf(other);
        for (int i = 0; i < b.size(); i++) {
            if (i >= a.size() || !a.get(i).equals(b.get(i))) {
                fault(what + " changed something: seen " + i + " of " + a.size() + " and " + b.size());
                return;
            }
        }
    }

    private static void fault(String text) {
        wrong++;
        System.out.println("promise " + promise + ": " + text);
    }

    private static void fill(OnOneBreath x, int shelf, int sort, int... values) {
        x.row(shelf, sort, values.length);
        for (int i = 0; i < values.length; i++) {
            x.put(shelf, i, values[i]);
        }
    }

    private static void feed(OnOneBreath x, String text) {
        for (int i = 0; i < text.length(); i++) {
            x.feed(text.charAt(i));
        }
    }

    /** Something of everything: four DEFENDERS, the last not IN, a law, half a TAPE, changes to undo and to redo, an image. */
    private static OnOneBreath lived() {
        OnOneBreath x = new OnOneBreath();
        x.defender(40, 5);
        x.defender(44, 7);
        x.defender(55, 4);
        x.defender(48, 9);
        for (int kind = 0; kind < 8; kind++) {
            x.body(kind);
        }
        fill(x, BYTES, 0, 1, 1, 1, 1, 2, 2, 2, 2);
        fill(x, SHORTS, 1, 300, -300, 7);
        fill(x, INTS, 2, 70000, 2);
        x.keep(BODY, 5);
        fill(x, BOOLEANS, 4, 1, 0, 1);
        x.go(BYTES);
        x.image();
        x.allIn();
        x.mend(3, 3, 0);
        x.mend(0, 4, 12);
        x.mend(0, 6, 11);
        x.mend(0, 9, 4);
        x.undo();
        x.undo();
        feed(x, "d<2?s%4;r>2");
        x.law();
        feed(x, "r=4?1;");
        x.act(5, 3, 5);
        return x;
    }

    /** All that can be full: DEFENDERS, THE TAPE, changes, BODIES, a ROW. */
    private static OnOneBreath full() {
        OnOneBreath x = new OnOneBreath();
        for (int i = 0; i < 7; i++) {
            x.defender(51 + i, 1 + i);
        }
        for (int i = 0; i < 50; i++) {
            x.body(i % 8);
        }
        for (int i = 0; i < 41; i++) {
            x.mend(0, 6, 10 + i % 2);
        }
        for (int i = 0; i < 59; i++) {
            feed(x, "d+");
        }
        feed(x, "10");
        x.row(BYTES, 0, 60);
        fill(x, SHORTS, 1, 1);
        return x;
    }

    /** All that can be seen of an object; the object is used up by it. Fewer than 290 calls. */
    private static List<Long> seenOf(OnOneBreath x) {
        List<Long> seen = new ArrayList<>();
        for (int what = 0; what < 6; what++) {
            seen.add((long) x.count(what));
            seen.add((long) x.led(what));
        }
        for (int i = 0; i < 11; i++) {
            seen.add((long) x.trace(i));
        }
        for (int shelf = 0; shelf < 6; shelf++) {
            seen.add((long) x.taken(shelf, 0));
            for (int i = 0; i < 10; i++) {
                seen.add(x.element(shelf, i));
            }
        }
        lookAtHalf(x, seen);
        lookAtThoughts(x, seen);
        seen.add((long) x.law());
        for (int d = 0; d < 7; d++) {
            seen.add((long) x.does(d, 43, 2));
        }
        seen.add((long) x.back());
        for (int d = 0; d < 7; d++) {
            seen.add((long) x.of(d, 3));
        }
        int more = x.redo();
        for (int i = 0; i < 41 && more != STATE; i++) {
            seen.add((long) more);
            more = x.redo();
        }
        more = x.undo();
        for (int i = 0; i < 41 && more != STATE; i++) {
            seen.add((long) more);
            more = x.undo();
        }
        lookAtHalf(x, seen);
        seen.add((long) x.body(0));
        return seen;
    }

    private static void lookAtHalf(OnOneBreath x, List<Long> seen) {
        for (int what = 0; what < 14; what++) {
            int last = what < 4 ? x.count(0) : 1;
            for (int number = 0; number < last; number++) {
                seen.add((long) x.of(number, what));
            }
        }
    }

    private static void lookAtThoughts(OnOneBreath x, List<Long> seen) {
        for (int what = 0; what < 7; what++) {
            seen.add((long) x.raid(BYTES, what));
        }
        for (int k = -1; k < 2; k++) {
            seen.add((long) x.best(2, k));
            seen.add((long) x.touch(0, k));
        }
        for (int d = 0; d < 7; d++) {
            seen.add((long) x.does(d, 43, 1));
        }
        seen.add((long) x.drawn(5, 9, 0));
        seen.add((long) x.left(2, 0, 0));
        seen.add((long) x.bench(BYTES, 77, 0, 0));
    }

    public static void main(String[] args) {
        defenderRefused();
        defendersRefused();
        mendRefused();
        ofRefused();
        feedRefused();
        doesRefused();
        bytesRefused();
        raidRefused();
        whereRefused();
        bestRefused();
        touchRefused();
        needsAndMightRefused();
        standRefused();
        lineRefused();
        oddsRefused();
        sheetRefused();
        drawnRefused();
        deedsRefused();
        bodiesRefused();
        keepRefused();
        rowRefused();
        elementRefused();
        shiftRefused();
        takenRefused();
        countRefused();
        System.out.println(asked + " refusals asked, " + wrong + " wrong");
        if (wrong != 0) {
            System.exit(1);
        }
    }

    private static void defenderRefused() {
        int[] noCells = {LEAST, -45, -10, -1, 0, 4, 8, 9, 19, 29, 39, 49, 59, 69, 79, 89, 90, 94, 98, 99, 100, 110, 144, MOST};
        Maker[] states = {OnOneBreath::new, RefusalsTest::lived, RefusalsTest::full};
        for (Maker state : states) {
            in(2, state);
            for (int rc : noCells) {
                refused("BAD: defender(" + rc + ", 5)", BAD, x -> x.defender(rc, 5));
            }
            for (int strong : new int[] {LEAST, -1, 10, MOST}) {
                refused("BAD: defender(44, " + strong + ")", BAD, x -> x.defender(44, strong));
            }
        }
        refused("FULL: 7 of them", FULL, x -> x.defender(44, 5));
        refused("FULL: 7 of them, the least cell", FULL, x -> x.defender(10, 0));
    }

    private static void defendersRefused() {
        in(3, RefusalsTest::lived);
        for (int shelf : new int[] {LEAST, -1, 6, MOST}) {
            refused("BAD: SHELF " + shelf, BAD, x -> x.defenders(shelf, 0, 1));
            refused("BAD: SHELF " + shelf + ", ahead of i below 0", BAD, x -> x.defenders(shelf, -1, 1));
        }
        for (int n : new int[] {LEAST, -1, 0, 8, MOST}) {
            refused("BAD: n " + n, BAD, x -> x.defenders(BYTES, 0, n));
            refused("BAD ahead of -12: n " + n, BAD, x -> x.defenders(BODY, 0, n));
            refused("BAD ahead of a missing ROW: n " + n, BAD, x -> x.defenders(NONE, 0, n));
            refused("BAD ahead of i below 0: n " + n, BAD, x -> x.defenders(BYTES, -1, n));
        }
        for (int shelf : new int[] {SHORTS, INTS, BODY, BOOLEANS}) {
            refused("-12: SHELF " + shelf, OTHER, x -> x.defenders(shelf, 0, 1));
            refused("-12 ahead of i below 0: SHELF " + shelf, OTHER, x -> x.defenders(shelf, -1, 1));
        }
        refused("0 with i -1", 0, x -> x.defenders(BYTES, -1, 1));
        refused("0 with the least i", 0, x -> x.defenders(BYTES, LEAST, 7));
        refused("0 where the row is missing", 0, x -> x.defenders(NONE, 0, 7));
        refused("0 where the row is missing, i below 0", 0, x -> x.defenders(NONE, -1, 7));
        refused("0 where the row ends: i 8 of 8", 0, x -> x.defenders(BYTES, 8, 1));
        refused("0 where the row ends within a three: i 6 of 8", 0, x -> x.defenders(BYTES, 6, 1));
        refused("0 where the row ends: i 9 of 8", 0, x -> x.defenders(BYTES, 9, 1));
        refused("0 where the row ends: the greatest i", 0, x -> x.defenders(BYTES, MOST, 7));
        refused("0 where the row ends: i + 3 would wrap", 0, x -> x.defenders(BYTES, MOST - 2, 7));
        in(3, RefusalsTest::full);
        refused("0 where DEFENDERS are FULL", 0, x -> x.defenders(BYTES, 0, 7));
        refused("-12, though DEFENDERS are FULL", OTHER, x -> x.defenders(SHORTS, 0, 1));
    }

    private static final int[] LOW = {0, 1, 0, 0, 1, 0, 0, 0, 1, 0, 0, 0, 0, 0};
    private static final int[] HIGH = {8, 8, 9, 1, 60, 3, 40, 8, 8, 12, 12, 12, 12, 12};

    private static void mendRefused() {
        in(4, RefusalsTest::lived);
        for (int what = 0; what < 14; what++) {
            int told = what;
            for (int v : new int[] {LEAST, LOW[what] - 1, HIGH[what] + 1, MOST}) {
                refused("BAD: mend(0, " + what + ", " + v + ")", BAD, x -> x.mend(0, told, v));
            }
            for (int number : new int[] {LEAST, -1, what < 4 ? 4 : 1, what < 4 ? 7 : 3, MOST}) {
                refused("BAD: mend(" + number + ", " + what + ", 1)", BAD, x -> x.mend(number, told, 1));
            }
        }
        for (int what : new int[] {LEAST, -1, 14, MOST}) {
            refused("BAD: what " + what, BAD, x -> x.mend(0, what, 1));
        }
        refused("telling the same number is none: STRONG", 5, x -> x.mend(0, 2, 5));
        refused("telling the same number is none: IN", 0, x -> x.mend(3, 3, 0));
        refused("telling the same number is none: BREATH", 12, x -> x.mend(0, 4, 12));
        refused("telling the same number is none: what was UNDONE", 9, x -> x.mend(0, 6, 9));
        in(4, OnOneBreath::new);
        for (int what = 0; what < 4; what++) {
            int told = what;
            refused("BAD: nobody is there, what " + what, BAD, x -> x.mend(0, told, 1));
        }
        refused("telling the same number is none: DEEP", 3, x -> x.mend(0, 9, 3));
        in(4, RefusalsTest::full);
        refused("BAD: the eighth", BAD, x -> x.mend(7, 0, 1));
        refused("telling the same number is none: MIGHT, 40 kept", 10, x -> x.mend(0, 6, 10));
    }

    private static void ofRefused() {
        in(5, RefusalsTest::lived);
        for (int what = 0; what < 14; what++) {
            int told = what;
            for (int number : new int[] {LEAST, -1, what < 4 ? 4 : 1, MOST}) {
                refused("BAD: of(" + number + ", " + what + ")", BAD, x -> x.of(number, told));
            }
        }
        for (int what : new int[] {LEAST, -1, 14, MOST}) {
            refused("BAD: what " + what, BAD, x -> x.of(0, what));
        }
        in(5, OnOneBreath::new);
        for (int what = 0; what < 4; what++) {
            int told = what;
            refused("BAD: nobody is there, what " + what, BAD, x -> x.of(0, told));
        }
    }

    private static void feedRefused() {
        Maker[] states = {OnOneBreath::new, RefusalsTest::lived, RefusalsTest::full};
        for (Maker state : states) {
            in(6, state);
            for (int letter : new int[] {LEAST, -1, 256, MOST}) {
                refused("BAD: feed(" + letter + ")", BAD, x -> x.feed(letter));
            }
        }
        for (int letter : new int[] {0, '1', 255}) {
            refused("FULL: 120 bytes, feed(" + letter + ")", FULL, x -> x.feed(letter));
        }
    }

    private static void doesRefused() {
        in(8, RefusalsTest::lived);
        for (int d : new int[] {LEAST, -1, 4, 6, 7, 31, 32, MOST}) {
            refused("BAD: DEFENDER " + d, BAD, x -> x.does(d, 44, 0));
        }
        refused("BAD: it is not IN", BAD, x -> x.does(3, 44, 0));
        for (int rc : new int[] {LEAST, -10, -1, 9, 19, 49, 89, 90, 98, 100, MOST}) {
            refused("BAD: rc " + rc, BAD, x -> x.does(0, rc, 0));
        }
        for (int b : new int[] {LEAST, -1, 100, MOST}) {
            refused("BAD: b " + b, BAD, x -> x.does(0, 44, b));
        }
        in(8, OnOneBreath::new);
        refused("BAD: nobody is there", BAD, x -> x.does(0, 44, 0));
    }

    private interface OfShelf {
        int on(OnOneBreath x, int shelf);
    }

    /** What all calls share that want a ROW of bytes on a SHELF. */
    private static void bytesRefused() {
        wantsBytes(9, (x, shelf) -> x.raid(shelf, 0));
        wantsBytes(10, (x, shelf) -> x.where(shelf, 0, -1));
        wantsBytes(13, OnOneBreath::needs);
        wantsBytes(14, OnOneBreath::spared);
        wantsBytes(16, OnOneBreath::mightHe);
        wantsBytes(20, (x, shelf) -> x.judge(shelf, 11));
        wantsBytes(21, (x, shelf) -> x.bench(shelf, 11, 0, 0));
        wantsBytes(23, OnOneBreath::go);
    }

    private static void wantsBytes(int number, OfShelf call) {
        in(number, RefusalsTest::lived);
        for (int shelf : new int[] {LEAST, -1, 6, MOST}) {
            refused("BAD: SHELF " + shelf, BAD, x -> call.on(x, shelf));
        }
        refused("-11: the SHELF holds nothing", NOTHING, x -> call.on(x, NONE));
        refused("-12: shorts", OTHER, x -> call.on(x, SHORTS));
        refused("-12: ints", OTHER, x -> call.on(x, INTS));
        refused("-12: booleans", OTHER, x -> call.on(x, BOOLEANS));
        refused("-12: a BODY", OTHER, x -> call.on(x, BODY));
        in(number, () -> {
            OnOneBreath x = new OnOneBreath();
            x.row(0, 3, 2);
            x.row(1, 1, 0);
            x.row(2, 0, 3);
            x.keep(2, -1);
            return x;
        });
        refused("-12: longs", OTHER, x -> call.on(x, 0));
        refused("-12: shorts, of no elements", OTHER, x -> call.on(x, 1));
        refused("-11: the SHELF holds nothing any more", NOTHING, x -> call.on(x, 2));
        in(number, OnOneBreath::new);
        for (int shelf = 0; shelf < 6; shelf++) {
            int told = shelf;
            refused("-11: SHELF " + shelf + " holds nothing at first", NOTHING, x -> call.on(x, told));
        }
    }

    private static void raidRefused() {
        in(9, RefusalsTest::lived);
        for (int what : new int[] {LEAST, -1, 7, MOST}) {
            refused("BAD: what " + what, BAD, x -> x.raid(BYTES, what));
            refused("BAD ahead of -11: what " + what, BAD, x -> x.raid(NONE, what));
            refused("BAD ahead of -12: what " + what, BAD, x -> x.raid(SHORTS, what));
        }
    }

    private static void whereRefused() {
        in(10, RefusalsTest::lived);
        for (int n : new int[] {LEAST, -1, 61, MOST}) {
            refused("BAD: n " + n, BAD, x -> x.where(BYTES, n, -1));
            refused("BAD ahead of -11: n " + n, BAD, x -> x.where(NONE, n, -1));
            refused("BAD ahead of -12: n " + n, BAD, x -> x.where(BODY, n, -1));
        }
        for (int who : new int[] {LEAST, -2, 4, 7, MOST}) {
            refused("BAD: who " + who, BAD, x -> x.where(BYTES, 3, who));
            refused("BAD ahead of -11: who " + who, BAD, x -> x.where(NONE, 3, who));
            refused("BAD ahead of -12: who " + who, BAD, x -> x.where(INTS, 3, who));
        }
        in(10, OnOneBreath::new);
        refused("BAD ahead of -11: nobody is there", BAD, x -> x.where(0, 0, 0));
    }

    private static void bestRefused() {
        in(11, RefusalsTest::lived);
        for (int n : new int[] {LEAST, -1, 0, 6, MOST}) {
            refused("VOID: n " + n, VOID, x -> x.best(n, -1));
            refused("VOID ahead of NOT: n " + n, VOID, x -> x.best(n, 6));
        }
        for (int k : new int[] {LEAST, -2}) {
            refused("VOID: k " + k, VOID, x -> x.best(2, k));
        }
        for (int n = 1; n <= 5; n++) {
            int told = n;
            refused("NOT: there are not as many, k " + n, NOT, x -> x.best(told, told));
            refused("NOT: there are not as many, the greatest k", NOT, x -> x.best(told, MOST));
        }
    }

    private static void touchRefused() {
        in(12, RefusalsTest::lived);
        for (int d : new int[] {LEAST, -1, 4, 7, 32, MOST}) {
            refused("BAD: DEFENDER " + d, BAD, x -> x.touch(d, -1));
        }
        refused("BAD: one not IN", BAD, x -> x.touch(3, -1));
        refused("BAD: one not IN, ahead of NOT", BAD, x -> x.touch(3, 5));
        for (int k : new int[] {LEAST, -2}) {
            refused("BAD: k " + k, BAD, x -> x.touch(0, k));
        }
        refused("NOT: there are not as many", NOT, x -> x.touch(0, 5));
        refused("NOT: there are not as many, the greatest k", NOT, x -> x.touch(0, MOST));
        in(12, OnOneBreath::new);
        refused("BAD: nobody is there", BAD, x -> x.touch(0, -1));
        in(12, () -> {
            OnOneBreath x = new OnOneBreath();
            x.defender(80, 5);
            return x;
        });
        refused("NOT: he is out of all reach", NOT, x -> x.touch(0, -1));
        refused("NOT: he is out of all reach, a move", NOT, x -> x.touch(0, 0));
        refused("BAD ahead of NOT: he is out of all reach, k -2", BAD, x -> x.touch(0, -2));
    }

    private static void needsAndMightRefused() {
        in(13, () -> {
            OnOneBreath x = lived();
            fill(x, BYTES, 0, 1, 0, 4);
            return x;
        });
        refused("NOT: he never comes HOME", NOT, x -> x.needs(BYTES));
        Maker strongest = () -> {
            OnOneBreath x = new OnOneBreath();
            for (int i = 0; i < 4; i++) {
                x.defender(14, 9);
            }
            x.defender(24, 5);
            feed(x, "3");
            x.law();
            fill(x, BYTES, 0, 1, 2);
            return x;
        };
        in(16, strongest);
        refused("NOT: 41 hold him", NOT, x -> x.mightHe(BYTES));
        in(13, strongest);
        refused("NOT: he is CAUGHT", NOT, x -> x.needs(BYTES));
    }

    private static void standRefused() {
        in(15, RefusalsTest::lived);
        for (int shelf : new int[] {LEAST, -1, 6, MOST, NONE, SHORTS, INTS, BODY, BOOLEANS}) {
            refused("VOID: SHELF " + shelf, VOID, x -> x.stand(shelf, 0, 0));
        }
        for (int d : new int[] {LEAST, -1, 4, 7, 32, MOST}) {
            refused("VOID: DEFENDER " + d, VOID, x -> x.stand(BYTES, d, 1));
        }
        refused("VOID: one not IN", VOID, x -> x.stand(BYTES, 3, 0));
        for (int what : new int[] {LEAST, -1, 2, MOST}) {
            refused("VOID: what " + what, VOID, x -> x.stand(BYTES, 0, what));
        }
        in(15, OnOneBreath::new);
        refused("VOID: nobody and nothing is there", VOID, x -> x.stand(0, 0, 0));
    }

    private static void lineRefused() {
        in(17, RefusalsTest::lived);
        for (int what : new int[] {LEAST, -1, 3, MOST}) {
            refused("BAD: what " + what, BAD, x -> x.line(what));
        }
    }

    private static void oddsRefused() {
        int[] far = {LEAST, -1, MOST};
        in(18, RefusalsTest::lived);
        for (int n : new int[] {LEAST, -1, 21, MOST}) {
            refused("BAD: n " + n, BAD, x -> x.left(n, 0, 0));
        }
        for (int lead : new int[] {LEAST, -31, 31, MOST}) {
            refused("BAD: lead " + lead, BAD, x -> x.left(3, lead, 0));
        }
        for (int what : new int[] {LEAST, -1, 2, MOST}) {
            refused("BAD: what " + what, BAD, x -> x.left(3, 0, what));
        }
        in(19, RefusalsTest::lived);
        for (int n : new int[] {LEAST, -1, 21, MOST}) {
            refused("BAD: n " + n, BAD, x -> x.third(n, 0, 0, 0));
        }
        for (int lead : new int[] {LEAST, -31, 31, MOST}) {
            refused("BAD: lead " + lead, BAD, x -> x.third(3, lead, 0, 0));
        }
        for (int what : new int[] {LEAST, -1, 2, MOST}) {
            refused("BAD: what " + what, BAD, x -> x.third(3, 0, 0, what));
        }
        refused("BAD: e 3", BAD, x -> x.third(3, 0, 3, 0));
        for (int e : far) {
            refused("BAD: e " + e, BAD, x -> x.third(3, 0, e, 0));
        }
    }

    private static void sheetRefused() {
        int[] noSizes = {LEAST, -77, -11, -1, 0, 1, 7, 8, 10, 18, 19, 20, 70, 78, 80, 81, 87, 88, 110, 111, 777, MOST};
        for (int sizes : noSizes) {
            in(20, RefusalsTest::lived);
            refused("BAD: sizes " + sizes, BAD, x -> x.judge(BYTES, sizes));
            refused("BAD ahead of -11: sizes " + sizes, BAD, x -> x.judge(NONE, sizes));
            refused("BAD ahead of -12: sizes " + sizes, BAD, x -> x.judge(SHORTS, sizes));
            in(21, RefusalsTest::lived);
            refused("BAD: sizes " + sizes, BAD, x -> x.bench(BYTES, sizes, 0, 0));
            refused("BAD ahead of -11: sizes " + sizes, BAD, x -> x.bench(NONE, sizes, 0, 0));
        }
        for (int team : new int[] {LEAST, -1, 2, MOST}) {
            refused("BAD: team " + team, BAD, x -> x.bench(BYTES, 77, team, 0));
            refused("BAD ahead of -11: team " + team, BAD, x -> x.bench(NONE, 77, team, 0));
            refused("BAD ahead of -12: team " + team, BAD, x -> x.bench(BODY, 77, team, 0));
        }
        for (int what : new int[] {LEAST, -1, 3, MOST}) {
            refused("BAD: what " + what, BAD, x -> x.bench(BYTES, 77, 0, what));
            refused("BAD ahead of -11: what " + what, BAD, x -> x.bench(NONE, 77, 0, what));
            refused("BAD ahead of -12: what " + what, BAD, x -> x.bench(INTS, 77, 0, what));
        }
    }

    private static void drawnRefused() {
        in(22, RefusalsTest::lived);
        for (int n : new int[] {LEAST, -1, 0, 51, MOST}) {
            refused("BAD: n " + n, BAD, x -> x.drawn(1, n, 0));
        }
        for (int what : new int[] {LEAST, -1, 2, MOST}) {
            refused("BAD: what " + what, BAD, x -> x.drawn(1, 1, what));
        }
    }

    private static void deedsRefused() {
        in(25, RefusalsTest::lived);
        for (int what : new int[] {LEAST, -1, 5, MOST}) {
            refused("BAD: what " + what, BAD, x -> x.led(what));
        }
        in(27, OnOneBreath::new);
        refused("STATE: there is no image", STATE, OnOneBreath::back);
        in(27, RefusalsTest::full);
        refused("STATE: there is no image, all the rest is full", STATE, OnOneBreath::back);
        in(27, () -> {
            OnOneBreath x = new OnOneBreath();
            x.defender(14, 5);
            x.defender(80, 5);
            x.mend(1, 3, 0);
            feed(x, "0");
            x.law();
            fill(x, BYTES, 0, 1, 2);
            x.go(BYTES);
            x.go(BYTES);
            return x;
        });
        refused("STATE: there is no image, raids were led", STATE, OnOneBreath::back);
        in(28, OnOneBreath::new);
        refused("STATE: no change", STATE, OnOneBreath::undo);
        in(28, () -> {
            OnOneBreath x = lived();
            x.undo();
            x.undo();
            return x;
        });
        refused("STATE: all is UNDONE", STATE, OnOneBreath::undo);
        in(29, OnOneBreath::new);
        refused("STATE: no change", STATE, OnOneBreath::redo);
        in(29, RefusalsTest::full);
        refused("STATE: nothing was UNDONE", STATE, OnOneBreath::redo);
        in(29, () -> {
            OnOneBreath x = lived();
            x.mend(0, 13, 11);
            return x;
        });
        refused("STATE: another one came behind", STATE, OnOneBreath::redo);
    }

    private static void bodiesRefused() {
        Maker[] states = {OnOneBreath::new, RefusalsTest::lived, RefusalsTest::full};
        for (Maker state : states) {
            in(30, state);
            for (int kind : new int[] {LEAST, -1, 8, MOST}) {
                refused("BAD: KIND " + kind, BAD, x -> x.body(kind));
            }
            in(32, state);
            for (int i : new int[] {LEAST, -1, 10, 23, 24, MOST}) {
                refused("BAD: the TRACE's " + i, BAD, x -> x.trace(i));
            }
        }
        in(30, RefusalsTest::full);
        for (int kind = 0; kind < 8; kind++) {
            int told = kind;
            refused("FULL: 50 BODIES, KIND " + kind, FULL, x -> x.body(told));
        }
        in(32, RefusalsTest::full);
        refused("BAD: no act() so far", BAD, x -> x.trace(0));
        in(31, OnOneBreath::new);
        refused("0: no such BODY", 0, x -> x.act(0, 0, 7));
    }

    private static void keepRefused() {
        in(33, RefusalsTest::lived);
        for (int shelf : new int[] {LEAST, -1, 6, MOST}) {
            refused("BAD: SHELF " + shelf, BAD, x -> x.keep(shelf, 0));
            refused("BAD: SHELF " + shelf + ", nothing", BAD, x -> x.keep(shelf, -1));
        }
        for (int body : new int[] {LEAST, -2, 8, 49, 50, MOST}) {
            refused("BAD: BODY " + body, BAD, x -> x.keep(BYTES, body));
            refused("BAD: BODY " + body + ", where one is", BAD, x -> x.keep(BODY, body));
        }
        in(33, OnOneBreath::new);
        refused("BAD: no BODY at all", BAD, x -> x.keep(0, 0));
        in(33, RefusalsTest::full);
        refused("BAD: BODY 50 of 50", BAD, x -> x.keep(BYTES, 50));
    }

    private static void rowRefused() {
        in(34, RefusalsTest::lived);
        for (int shelf : new int[] {LEAST, -1, 6, MOST}) {
            refused("BAD: SHELF " + shelf, BAD, x -> x.row(shelf, 0, 1));
            refused("BAD ahead of -14: SHELF " + shelf, BAD, x -> x.row(shelf, 0, -1));
        }
        for (int sort : new int[] {LEAST, -1, 5, MOST}) {
            refused("BAD: sort " + sort, BAD, x -> x.row(BYTES, sort, 1));
            refused("BAD ahead of -14: sort " + sort, BAD, x -> x.row(BYTES, sort, -1));
        }
        for (int sort = 0; sort < 5; sort++) {
            int told = sort;
            refused("BAD: n 61, sort " + sort, BAD, x -> x.row(BYTES, told, 61));
            refused("BAD: the greatest n, sort " + sort, BAD, x -> x.row(BODY, told, MOST));
            refused("-14: n -1, sort " + sort, SIZE, x -> x.row(BYTES, told, -1));
            refused("-14: the least n, sort " + sort, SIZE, x -> x.row(NONE, told, LEAST));
        }
    }

    private static void elementRefused() {
        long none = Long.MIN_VALUE;
        in(35, RefusalsTest::lived);
        for (int shelf : new int[] {LEAST, -1, 6, MOST}) {
            refused("BAD: put on SHELF " + shelf, BAD, x -> x.put(shelf, 0, 9));
            refused("BAD ahead of -13: put on SHELF " + shelf, BAD, x -> x.put(shelf, -1, 9));
            refused("no element of SHELF " + shelf, none, x -> x.element(shelf, 0));
        }
        int[] places = {LEAST, -1, 60, MOST};
        for (int i : places) {
            refused("-13: put at " + i, PLACE, x -> x.put(BYTES, i, 9));
            refused("-11 ahead of -13: put at " + i, NOTHING, x -> x.put(NONE, i, 9));
            refused("-12 ahead of -13: put at " + i, OTHER, x -> x.put(BODY, i, 9));
            refused("no element at " + i, none, x -> x.element(BYTES, i));
        }
        refused("-11: put where nothing is", NOTHING, x -> x.put(NONE, 0, 9));
        refused("-12: put where a BODY is", OTHER, x -> x.put(BODY, 0, 9));
        refused("no element where nothing is", none, x -> x.element(NONE, 0));
        refused("no element where a BODY is", none, x -> x.element(BODY, 0));
        int[] lengths = {8, 3, 2, 0, 0, 3};
        for (int shelf : new int[] {BYTES, SHORTS, INTS, BOOLEANS}) {
            refused("-13: put just behind SHELF " + shelf, PLACE, x -> x.put(shelf, lengths[shelf], 9));
            refused("no element just behind SHELF " + shelf, none, x -> x.element(shelf, lengths[shelf]));
        }
        in(35, () -> {
            OnOneBreath x = new OnOneBreath();
            x.row(0, 0, 0);
            return x;
        });
        refused("-13: put in a ROW of no elements", PLACE, x -> x.put(0, 0, 9));
        in(36, maker);
        refused("no element in a ROW of no elements", none, x -> x.element(0, 0));
        in(35, RefusalsTest::full);
        refused("-13: put at 60 of 60", PLACE, x -> x.put(BYTES, 60, 9));
        in(36, RefusalsTest::full);
        refused("no element at 60 of 60", none, x -> x.element(BYTES, 60));
    }

    private static void shiftRefused() {
        in(37, () -> {
            OnOneBreath x = lived();
            // SHELF 2 another ROW of bytes: 8 on the first, 3 on this one.
            fill(x, INTS, 0, 11, 12, 13);
            return x;
        });
        int three = INTS;
        for (int shelf : new int[] {LEAST, -1, 6, MOST}) {
            refused("BAD: from SHELF " + shelf, BAD, x -> x.shift(shelf, 0, BYTES, 0, 1));
            refused("BAD: to SHELF " + shelf, BAD, x -> x.shift(BYTES, 0, shelf, 0, 1));
            refused("BAD ahead of -11: from SHELF " + shelf, BAD, x -> x.shift(shelf, 0, NONE, 0, 1));
            refused("BAD ahead of -11: to SHELF " + shelf, BAD, x -> x.shift(NONE, 0, shelf, 0, 1));
            refused("BAD ahead of -12: to SHELF " + shelf, BAD, x -> x.shift(BODY, 0, shelf, 0, 1));
            refused("BAD ahead of -13: to SHELF " + shelf, BAD, x -> x.shift(BYTES, 0, shelf, 0, -1));
        }
        for (int other : new int[] {BYTES, SHORTS, BODY, NONE}) {
            refused("-11: from nothing to SHELF " + other, NOTHING, x -> x.shift(NONE, 0, other, 0, 1));
            refused("-11: from SHELF " + other + " to nothing", NOTHING, x -> x.shift(other, 0, NONE, 0, 1));
            refused("-11 ahead of -13: from nothing to SHELF " + other, NOTHING, x -> x.shift(NONE, 0, other, 0, -1));
        }
        for (int other : new int[] {BYTES, SHORTS, BOOLEANS, BODY}) {
            refused("-12: from a BODY to SHELF " + other, OTHER, x -> x.shift(BODY, 0, other, 0, 1));
            refused("-12: from SHELF " + other + " to a BODY", OTHER, x -> x.shift(other, 0, BODY, 0, 1));
            refused("-12 ahead of -13: from a BODY to SHELF " + other, OTHER, x -> x.shift(BODY, 0, other, 0, -1));
        }
        refused("-12: unlike sorts", OTHER, x -> x.shift(BYTES, 0, SHORTS, 0, 1));
        refused("-12: unlike sorts, bytes and booleans", OTHER, x -> x.shift(BOOLEANS, 0, BYTES, 0, 1));
        refused("-12: unlike sorts, none to come", OTHER, x -> x.shift(BYTES, 0, SHORTS, 0, 0));
        refused("-12 ahead of -13: unlike sorts, n below 0", OTHER, x -> x.shift(BYTES, 0, SHORTS, 0, -1));
        int[][] noPlaces = {{0, 0, -1}, {0, 0, LEAST}, {-1, 0, 1}, {-1, 0, 0}, {0, -1, 1}, {0, -1, 0}, {LEAST, 0, 1}, {0, LEAST, 1},
            {8, 0, 1}, {9, 0, 0}, {7, 0, 2}, {0, 3, 1}, {0, 4, 0}, {0, 2, 2}, {0, 0, 4}, {0, 1, 3}, {1, 0, MOST}, {MOST, 0, 1},
            {MOST, 0, MOST}, {0, MOST, 1}, {8, 3, 1}, {6, 0, 3}};
        for (int[] p : noPlaces) {
            refused("-13: shift(0, " + p[0] + ", 2, " + p[1] + ", " + p[2] + ")", PLACE, x -> x.shift(BYTES, p[0], three, p[1], p[2]));
        }
        refused("-13: in the same ROW", PLACE, x -> x.shift(BYTES, 0, BYTES, 1, 8));
        refused("0: none at the end of one from the end of the other", 0, x -> x.shift(BYTES, 8, three, 3, 0));
    }

    private static void takenRefused() {
        in(38, RefusalsTest::lived);
        for (int shelf : new int[] {LEAST, -1, 6, MOST}) {
            refused("BAD: SHELF " + shelf, BAD, x -> x.taken(shelf, 0));
        }
        for (int k : new int[] {LEAST, -1, 8, MOST}) {
            refused("BAD: KIND " + k, BAD, x -> x.taken(BODY, k));
            refused("BAD ahead of -11: KIND " + k, BAD, x -> x.taken(NONE, k));
            refused("BAD ahead of -12: KIND " + k, BAD, x -> x.taken(BYTES, k));
        }
        for (int k = 0; k < 8; k++) {
            int told = k;
            refused("-11: nothing, KIND " + k, NOTHING, x -> x.taken(NONE, told));
            refused("-12: a ROW, KIND " + k, OTHER, x -> x.taken(BYTES, told));
        }
        // SHELF 3 holds a CORNER: under HOLD, TOUCH and MOMENT, not under the others.
        for (int k : new int[] {1, 4, 6, 7}) {
            refused("-12: a CORNER for KIND " + k, OTHER, x -> x.taken(BODY, k));
        }
    }

    private static void countRefused() {
        Maker[] states = {OnOneBreath::new, RefusalsTest::lived, RefusalsTest::full};
        for (Maker state : states) {
            in(39, state);
            for (int what : new int[] {LEAST, -1, 6, MOST}) {
                refused("BAD: what " + what, BAD, x -> x.count(what));
            }
        }
    }
}
