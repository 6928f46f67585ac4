/** Each promise by answers worked out by hand: ordinary inputs, the edges that the document names, wrong inputs. */
public final class PromisesTest {
    private static final int BAD = -1, NOT = -2, FULL = -3, STATE = -5, VOID = -2000000000;
    private static final int LEAST = Integer.MIN_VALUE, MOST = Integer.MAX_VALUE;
    private static int wrong = 0;
    private static int asked = 0;

    private static void due(int promise, String what, long got, long want) {
        asked++;
        if (got != want) {
            wrong++;
            System.out.println("promise " + promise + ": " + what + " answered " + got + ", due is " + want);
        }
    }

    /** A ROW of bytes on a SHELF. */
    private static void bytes(OnOneBreath x, int shelf, int... values) {
        x.row(shelf, 0, values.length);
        for (int i = 0; i < values.length; i++) {
            x.put(shelf, i, values[i]);
        }
    }

    private static int lawOf(OnOneBreath x, String text) {
        for (int i = 0; i < text.length(); i++) {
            x.feed(text.charAt(i));
        }
        return x.law();
    }

    /** What the first of the DEFENDERS, in cell 55 and STRONG 5, does by a text: the RAIDER in cell 53, behind 7 seconds. */
    private static int doneBy(String text) {
        OnOneBreath x = new OnOneBreath();
        x.defender(55, 5);
        x.defender(56, 1);
        x.defender(45, 1);
        x.defender(55, 1);
        x.defender(66, 1);
        x.mend(4, 3, 0);
        int answer = lawOf(x, text);
        return answer == 1 ? x.does(0, 53, 7) : answer;
    }

    public static void main(String[] args) {
        newObject();
        defender();
        defenders();
        mend();
        of();
        feed();
        law();
        lawWorkedOut();
        does();
        raid();
        raidEdges();
        raidActs();
        where();
        best();
        touch();
        needs();
        spared();
        stand();
        mightHe();
        line();
        left();
        third();
        judge();
        bench();
        drawn();
        go();
        allIn();
        led();
        image();
        back();
        undo();
        redo();
        body();
        act();
        trace();
        keep();
        row();
        put();
        element();
        shift();
        taken();
        count();
        System.out.println(asked + " answers asked, " + wrong + " wrong");
        if (wrong != 0) {
            System.exit(1);
        }
    }

    private static void newObject() {
        OnOneBreath x = new OnOneBreath();
        for (int what = 0; what <= 5; what++) {
            due(1, "count(" + what + ")", x.count(what), 0);
        }
        int[] first = {20, 1, 9, 4, 3, 3, 3, 1, 1, 2};
        for (int i = 0; i < first.length; i++) {
            due(1, "of(0, " + (4 + i) + ")", x.of(0, 4 + i), first[i]);
        }
        for (int shelf = 0; shelf < 6; shelf++) {
            due(1, "taken(" + shelf + ", 0)", x.taken(shelf, 0), -11);
        }
        for (int what = 0; what < 5; what++) {
            due(1, "led(" + what + ")", x.led(what), 0);
        }
        due(1, "back()", x.back(), STATE);
    }

    private static void defender() {
        OnOneBreath x = new OnOneBreath();
        int[] wrongCells = {-1, 0, 8, 9, 19, 89, 90, 98, 100, -11, 1055, LEAST, MOST};
        for (int rc : wrongCells) {
            due(2, "defender(" + rc + ", 5)", x.defender(rc, 5), BAD);
        }
        due(2, "defender(55, -1)", x.defender(55, -1), BAD);
        due(2, "defender(55, 10)", x.defender(55, 10), BAD);
        due(2, "defender(10, 0)", x.defender(10, 0), 0);
        due(2, "defender(88, 9)", x.defender(88, 9), 1);
        due(2, "of(1, 0)", x.of(1, 0), 8);
        due(2, "of(1, 1)", x.of(1, 1), 8);
        due(2, "of(1, 2)", x.of(1, 2), 9);
        due(2, "of(1, 3)", x.of(1, 3), 1);
        for (int i = 2; i < 7; i++) {
            due(2, "defender(88, 9), shared", x.defender(88, 9), i);
        }
        due(2, "defender(88, 9), the eighth", x.defender(88, 9), FULL);
        due(2, "defender(89, 9), the eighth", x.defender(89, 9), BAD);
        due(2, "count(0)", x.count(0), 7);
        due(2, "count(3)", x.count(3), 0);
    }

    private static void defenders() {
        OnOneBreath x = new OnOneBreath();
        bytes(x, 0, 0, 1, 0, 8, 8, 9, 3, 4, 5, 7);
        due(3, "i below 0", x.defenders(0, -1, 1), 0);
        due(3, "i least", x.defenders(0, LEAST, 1), 0);
        due(3, "i most", x.defenders(0, MOST, 1), 0);
        due(3, "missing", x.defenders(1, 0, 1), 0);
        due(3, "missing, i below 0", x.defenders(1, -5, 1), 0);
        due(3, "n 0", x.defenders(0, 0, 0), BAD);
        due(3, "n 8", x.defenders(0, 0, 8), BAD);
        due(3, "shelf -1", x.defenders(-1, 0, 1), BAD);
        due(3, "shelf 6", x.defenders(6, 0, 1), BAD);
        x.row(2, 2, 9);
        due(3, "ints", x.defenders(2, 0, 1), -12);
        x.body(0);
        x.keep(3, 0);
        due(3, "a body", x.defenders(3, 0, 1), -12);
        due(3, "two of three", x.defenders(0, 0, 2), 2);
        due(3, "count(0)", x.count(0), 2);
        due(3, "of(1, 0)", x.of(1, 0), 8);
        due(3, "of(1, 2)", x.of(1, 2), 9);
        due(3, "ends within a three", x.defenders(0, 6, 7), 1);
        due(3, "of(2, 0)", x.of(2, 0), 3);
        due(3, "of(2, 1)", x.of(2, 1), 4);
        due(3, "of(2, 2)", x.of(2, 2), 5);
        due(3, "ends at once", x.defenders(0, 8, 1), 0);
        int[][] notSo = {{9, 1, 1}, {-1, 1, 1}, {0, 0, 1}, {0, 9, 1}, {0, 1, 10}, {0, 1, -1}};
        for (int[] three : notSo) {
            bytes(x, 4, 1, 1, 1, three[0], three[1], three[2], 1, 1, 1);
            due(3, "one is not as it may be", x.defenders(4, 3, 2), 0);
        }
        due(3, "those ahead came", x.defenders(4, 0, 3), 1);
        bytes(x, 5, 1, 1, 1, 1, 1, 1, 1, 1, 1, 1, 1, 1, 1, 1, 1);
        due(3, "FULL within", x.defenders(5, 0, 5), 3);
        due(3, "FULL", x.defenders(5, 0, 5), 0);
        due(3, "count(1)", x.count(1), 7);
    }

    private static void mend() {
        OnOneBreath x = new OnOneBreath();
        x.defender(55, 5);
        int[] low = {0, 1, 0, 0, 1, 0, 0, 0, 1, 0, 0, 0, 0, 0};
        int[] high = {8, 8, 9, 1, 60, 3, 40, 8, 8, 12, 12, 12, 12, 12};
        int[] was = {5, 5, 5, 1, 20, 1, 9, 4, 3, 3, 3, 1, 1, 2};
        for (int what = 0; what < 14; what++) {
            due(4, "below, what " + what, x.mend(0, what, low[what] - 1), BAD);
            due(4, "above, what " + what, x.mend(0, what, high[what] + 1), BAD);
            due(4, "number 1, what " + what, x.mend(1, what, low[what]), BAD);
            due(4, "number -1, what " + what, x.mend(-1, what, low[what]), BAD);
            due(4, "lowest, what " + what, x.mend(0, what, low[what]), was[what]);
            due(4, "highest, what " + what, x.mend(0, what, high[what]), low[what]);
            due(4, "the same, what " + what, x.mend(0, what, high[what]), high[what]);
            due(4, "of, what " + what, x.of(0, what), high[what]);
        }
        due(4, "what -1", x.mend(0, -1, 1), BAD);
        due(4, "what 14", x.mend(0, 14, 1), BAD);
        due(4, "what least", x.mend(0, LEAST, 1), BAD);
        due(4, "v least", x.mend(0, 0, LEAST), BAD);
        due(4, "number most", x.mend(MOST, 0, 1), BAD);
    }

    private static void of() {
        OnOneBreath x = new OnOneBreath();
        due(5, "nobody", x.of(0, 0), BAD);
        x.defender(37, 2);
        due(5, "COLUMN", x.of(0, 0), 7);
        due(5, "ROW", x.of(0, 1), 3);
        due(5, "STRONG", x.of(0, 2), 2);
        due(5, "IN", x.of(0, 3), 1);
        due(5, "number 1", x.of(1, 3), BAD);
        due(5, "number -1", x.of(-1, 0), BAD);
        due(5, "BREATH of number 1", x.of(1, 4), BAD);
        due(5, "THEIRS of number 1", x.of(1, 13), BAD);
        due(5, "what -1", x.of(0, -1), BAD);
        due(5, "what 14", x.of(0, 14), BAD);
        due(5, "what most", x.of(0, MOST), BAD);
    }

    private static void feed() {
        OnOneBreath x = new OnOneBreath();
        due(6, "feed(-1)", x.feed(-1), BAD);
        due(6, "feed(256)", x.feed(256), BAD);
        due(6, "feed(0)", x.feed(0), 1);
        due(6, "feed(255)", x.feed(255), 2);
        for (int i = 3; i <= 120; i++) {
            due(6, "feed", x.feed('1'), i);
        }
        due(6, "feed, the 121st", x.feed('1'), FULL);
        due(6, "feed(256), the 121st", x.feed(256), BAD);
        due(6, "count(2)", x.count(2), 120);
        due(6, "the first byte came", x.law(), -100);
        due(6, "count(2)", x.count(2), 0);
        due(6, "feed again", x.feed('1'), 1);
    }

    private static void law() {
        due(7, "empty", doneBy(""), -100);
        String[] texts = {"x", "1 ", "12345", "1;", ";", "1?", "1?2?3", "1<2<3", "1<2=3", "(1?2)", "()", "(1", "1)", "1+",
            "+1", "1|", "1||1", "1&&1", "d1", "1d", "dd", "1!", "!", "-", "1*/2", "(1))", "1;;2", "?1", "1<", "D", "1,2",
            "!!!!!!!1", "(((((((1", "-!(-!(-1))", "-!(-!(1-(1)))", "(((((((", "((((((1", "!!!!!!"};
        int[] faults = {0, 1, 4, 2, 0, 2, 3, 3, 3, 2, 1, 2, 1, 2,
            0, 2, 2, 2, 1, 1, 1, 1, 1, 1, 2, 3, 2, 0, 2, 0, 1,
            6, 6, 6, 8, 6, 7, 6};
        for (int i = 0; i < texts.length; i++) {
            due(7, "fault of " + texts[i], doneBy(texts[i]), -100 - faults[i]);
        }
        OnOneBreath x = new OnOneBreath();
        x.defender(55, 5);
        due(7, "a text", lawOf(x, "3"), 1);
        due(7, "the tape is empty", x.count(2), 0);
        due(7, "it counts", x.does(0, 1, 0), 3);
        due(7, "a fault", lawOf(x, "1*"), -102);
        due(7, "the tape is empty", x.count(2), 0);
        due(7, "the law stays", x.does(0, 1, 0), 3);
        due(7, "no tape", x.law(), -100);
        due(7, "the law stays", x.does(0, 1, 0), 3);
        due(7, "another text", lawOf(x, "2"), 1);
        due(7, "it counts", x.does(0, 1, 0), 2);
        StringBuilder longest = new StringBuilder("1");
        while (longest.length() < 119) {
            longest.append("+1");
        }
        due(7, "119 bytes, 60 ones", lawOf(x, longest.toString()), 1);
        due(7, "60 by 4", x.does(0, 1, 0), 0);
        due(7, "120 bytes, too early", lawOf(x, longest + "+"), -220);
        due(7, "120 bytes, a digit", lawOf(x, longest + "0"), 1);
        due(7, "69 by 4", x.does(0, 1, 0), 1);
        x.feed(200);
        due(7, "a byte above 127", x.law(), -100);
    }

    private static void lawWorkedOut() {
        // From cell 55: d 2 (the RAIDER in 53), r 5, b 7, s 5, n 4 (the fifth is not IN), c 2 (56 and 45; 55 itself is 0 apart).
        String[] texts = {"d", "r", "b", "s", "n", "c", "d=2", "r=5&b=7", "s=5&n=4&c=2", "c*10+n=24",
            "0?3", "0?3;2", "1?3;2", "0?1;0?2", "0?1;5?2;3", "2;3", "-1?3", "d-2?1;2",
            "2+3*4", "(2+3)*2", "10-4-3", "20/4/3", "7-2*3", "11%4", "-11%4", "0-11%4", "7/0", "7%0", "7/(d-2)+1",
            "-7/2", "-2", "-3", "--3", "!0", "!5", "!!5", "-!0", "!-1", "2<3", "3<3", "3>2", "3>3", "3=3", "2=3",
            "5|0", "0|0", "5&7", "5&0", "1|0&0", "(1|0)&0", "1+1=2", "1<2&2<3", "1+2<4", "3&2+0*9", "0|3=3", "0007",
            "9999", "9999*9999*9999*9999", "((((((3))))))", "!!!!!!2", "-!(-!(3))", "(3)+((3))", "2*-3", "1--2", "5--1",
            "1<2=0", "0-9999*9999*9999/2"};
        int[] due = {2, 1, 3, 1, 0, 2, 1, 1, 1, 1,
            0, 2, 3, 0, 2, 2, 3, 2,
            2, 2, 3, 1, 1, 3, 3, 3, 0, 0, 1,
            3, 2, 3, 3, 1, 0, 1, 1, 0, 1, 0, 1, 0, 1, 0,
            1, 0, 1, 0, 1, 0, 1, 1, 1, 1, 1, 3,
            3, 1, 3, 1, 1, 2, 2, 3, 2,
            -103, 0};
        // Where ints wrap, Java's own are the measure.
        due[due.length - 1] = Math.abs((0 - 9999 * 9999 * 9999 / 2) % 4);
        for (int i = 0; i < texts.length; i++) {
            due(7, texts[i], doneBy(texts[i]), due[i]);
        }
    }

    private static void does() {
        OnOneBreath x = new OnOneBreath();
        x.defender(55, 5);
        x.defender(11, 5);
        x.mend(1, 3, 0);
        due(8, "not IN", x.does(1, 55, 0), BAD);
        due(8, "defender -1", x.does(-1, 55, 0), BAD);
        due(8, "defender 2", x.does(2, 55, 0), BAD);
        int[] wrongCells = {-1, 9, 19, 89, 90, 100, LEAST, MOST};
        for (int rc : wrongCells) {
            due(8, "rc " + rc, x.does(0, rc, 0), BAD);
        }
        due(8, "b -1", x.does(0, 55, -1), BAD);
        due(8, "b 100", x.does(0, 55, 100), BAD);
        due(8, "r 4 or more, d 0", x.does(0, 55, 99), 3);
        due(8, "r 4 or more, d 1", x.does(0, 45, 0), 3);
        due(8, "r 4 or more, d 2", x.does(0, 44, 0), 1);
        due(8, "r 4 or more, far", x.does(0, 80, 0), 1);
        due(8, "r 3, d 2", x.does(0, 35, 0), 2);
        due(8, "r 3, d 3", x.does(0, 34, 0), 0);
        due(8, "r 0", x.does(0, 5, 0), 0);
        x.mend(0, 1, 3);
        due(8, "r 3, d 0", x.does(0, 35, 0), 2);
        lawOf(x, "b");
        due(8, "b 99", x.does(0, 8, 99), 3);
        lawOf(x, "r+d");
        due(8, "ROW 0, d 8", x.does(0, 0, 0), 0);
        due(8, "nothing moved", x.of(0, 1), 3);
    }

    private static void raid() {
        OnOneBreath x = new OnOneBreath();
        due(9, "shelf -1", x.raid(-1, 0), BAD);
        due(9, "shelf 6", x.raid(6, 0), BAD);
        due(9, "nothing", x.raid(0, 0), -11);
        due(9, "nothing, what 7", x.raid(0, 7), BAD);
        x.row(0, 4, 3);
        due(9, "booleans", x.raid(0, 0), -12);
        due(9, "booleans, what -1", x.raid(0, -1), BAD);
        x.body(0);
        x.keep(1, 0);
        due(9, "a body", x.raid(1, 0), -12);

        // He goes to 14, 24 (touches 25, which goes to 35), back to 14, home.
        x.defender(25, 5);
        bytes(x, 0, 1, 1, 2, 2);
        due(9, "end", x.raid(0, 0), 1);
        due(9, "seconds", x.raid(0, 1), 4);
        due(9, "points", x.raid(0, 2), 0);
        due(9, "for THEM", x.raid(0, 3), 1);
        x.mend(0, 5, 2);
        due(9, "points by REACH 2", x.raid(0, 2), 1);
        due(9, "for THEM by REACH 2", x.raid(0, 3), 0);
        due(9, "TOUCHED", x.raid(0, 4), 1);
        due(9, "how deep", x.raid(0, 5), 2);
        due(9, "who HOLDS", x.raid(0, 6), 0);
        due(9, "nothing changed", x.of(0, 1), 2);
        due(9, "IN", x.of(0, 3), 1);
        due(9, "no raid in deed", x.led(0), 0);
    }

    private static void raidEdges() {
        // A law of stones: nobody moves.
        OnOneBreath x = new OnOneBreath();
        lawOf(x, "0");
        x.mend(0, 4, 6);
        bytes(x, 0, 1, 1, 1, 2, 2, 2);
        due(9, "as deep as BAULK, none TOUCHED", x.raid(0, 3), 0);
        due(9, "BREATH just enough", x.raid(0, 0), 1);
        x.mend(0, 8, 4);
        due(9, "not as deep as BAULK", x.raid(0, 3), 1);
        x.mend(0, 4, 5);
        due(9, "BREATH gone", x.raid(0, 0), 3);
        due(9, "LOST, seconds", x.raid(0, 1), 5);
        due(9, "LOST, nobody IN", x.raid(0, 3), 2);
        x.defender(14, 1);
        x.defender(80, 1);
        x.defender(81, 1);
        due(9, "LOST, three IN", x.raid(0, 3), 2);
        due(9, "LOST, TOUCHED", x.raid(0, 4), 1);
        due(9, "LOST, points", x.raid(0, 2), 0);
        x.defender(82, 1);
        due(9, "LOST, four IN", x.raid(0, 3), 1);
        x.mend(3, 3, 0);
        due(9, "LOST, three of four IN", x.raid(0, 3), 2);

        // ROW 0 touches nobody and nobody is held there: 13 is 1 away from 3, 14 from 4.
        OnOneBreath y = new OnOneBreath();
        lawOf(y, "3");
        y.defender(13, 9);
        y.defender(14, 9);
        y.mend(0, 4, 3);
        bytes(y, 0, 3, 3);
        due(9, "ROW 0, end", y.raid(0, 0), 3);
        due(9, "ROW 0, TOUCHED", y.raid(0, 4), 0);
        due(9, "ROW 0, who HOLDS", y.raid(0, 6), 0);
        y.mend(0, 6, 17);
        bytes(y, 0, 1, 2);
        due(9, "CAUGHT by 18 over 17", y.raid(0, 0), 2);
        due(9, "CAUGHT, seconds", y.raid(0, 1), 1);
        due(9, "CAUGHT, who HOLDS", y.raid(0, 6), 3);
        due(9, "CAUGHT, TOUCHED", y.raid(0, 4), 3);
        due(9, "CAUGHT, points", y.raid(0, 2), 0);
        due(9, "CAUGHT, for THEM", y.raid(0, 3), 2);
        y.mend(0, 6, 18);
        due(9, "held by 18 of 18, HOME", y.raid(0, 0), 1);
        due(9, "points of two", y.raid(0, 2), 2);
        due(9, "HOME, nobody HOLDS", y.raid(0, 6), 0);
        bytes(y, 0, 1);
        due(9, "stays until LOST", y.raid(0, 0), 3);
        due(9, "LOST, who HOLDS", y.raid(0, 6), 3);
        y.mend(1, 3, 0);
        due(9, "one not IN is not TOUCHED", y.raid(0, 4), 1);
        due(9, "one not IN does not hold", y.raid(0, 6), 1);
    }

    /** Where one is after a single second of a law, the RAIDER going to 44 from ROW 3 by the sixth second. */
    private static int after(String text, int cell) {
        OnOneBreath x = new OnOneBreath();
        x.defender(cell, 5);
        lawOf(x, text);
        bytes(x, 0, 1, 1, 1, 1);
        return x.where(0, 4, 0);
    }

    private static void raidActs() {
        due(9, "comes a COLUMN", after("b=3?1", 47), 46);
        due(9, "comes a COLUMN from below", after("b=3?1", 40), 41);
        due(9, "a COLUMN first, though ROWS differ", after("b=3?1", 85), 84);
        due(9, "comes a ROW", after("b=3?1", 74), 64);
        due(9, "comes a ROW deeper", after("b=3?1", 14), 24);
        due(9, "not onto him by a COLUMN", after("b=3?1", 45), 45);
        due(9, "not onto him by a ROW", after("b=3?1", 54), 54);
        due(9, "not onto him from above", after("b=3?1", 34), 34);
        due(9, "on his cell", after("b=3?1", 44), 44);
        due(9, "goes away", after("b=3?2", 44), 54);
        due(9, "goes away at 8", after("b=3?2", 80), 80);
        due(9, "stays", after("b=3?0", 47), 47);
        due(9, "holds far off", after("b=3?3", 47), 47);

        // Not into ROW 0: he stays beyond, it comes from 24 to 14 and no farther; 13 comes to COLUMN 4 at once.
        OnOneBreath x = new OnOneBreath();
        x.defender(24, 5);
        x.defender(13, 5);
        lawOf(x, "1");
        x.mend(0, 4, 5);
        bytes(x, 0);
        due(9, "at ROW 1", x.where(0, 1, 0), 14);
        due(9, "not into ROW 0", x.where(0, 5, 0), 14);
        due(9, "they share a cell", x.where(0, 5, 1), 14);

        // By numbers, each as all stand then: 0 steps away from 1, so that 1 has no neighbour any more.
        OnOneBreath y = new OnOneBreath();
        y.defender(50, 5);
        y.defender(40, 5);
        lawOf(y, "c?2");
        y.mend(0, 4, 1);
        bytes(y, 0);
        due(9, "the first goes", y.where(0, 1, 0), 60);
        due(9, "the second has none beside it then", y.where(0, 1, 1), 40);

        // TOUCHED ahead of their acts: 24 is touched from 14, and would be away after it.
        OnOneBreath z = new OnOneBreath();
        z.defender(24, 5);
        bytes(z, 0, 1, 2);
        due(9, "TOUCHED ahead of acts", z.raid(0, 4), 1);
        due(9, "and points", z.raid(0, 2), 1);
        // HOME ends all: nobody acts in that second.
        due(9, "nobody acts as he comes home", z.where(0, 9, 0), 34);
    }

    private static void where() {
        OnOneBreath x = new OnOneBreath();
        x.defender(70, 5);
        x.defender(71, 5);
        x.mend(1, 3, 0);
        bytes(x, 0, 4, 1, 3, 9, 2, 1);
        int[] way = {4, 5, 15, 14, 14, 4, 4};
        for (int n = 0; n < way.length; n++) {
            due(10, "the RAIDER behind " + n, x.where(0, n, -1), way[n]);
        }
        due(10, "as it ended", x.where(0, 60, -1), 4);
        due(10, "n 61", x.where(0, 61, -1), BAD);
        due(10, "n -1", x.where(0, -1, -1), BAD);
        due(10, "who -2", x.where(0, 0, -2), BAD);
        due(10, "who 2", x.where(0, 0, 2), BAD);
        due(10, "who 1, not IN", x.where(0, 60, 1), 71);
        due(10, "nothing", x.where(1, 0, 0), -11);
        due(10, "nothing, n 61", x.where(1, 61, 0), BAD);
        x.row(1, 3, 1);
        due(10, "longs", x.where(1, 0, 0), -12);
        due(10, "shelf 6", x.where(6, 0, 0), BAD);
        x.mend(0, 4, 2);
        due(10, "BREATH gone", x.where(0, 9, -1), 15);
        x.mend(0, 4, 60);
        x.mend(0, 7, 8);
        bytes(x, 0, 4, 2, 1, 4, 1, 1, 1, 1, 1, 1, 1, 1);
        due(10, "not beyond COLUMN 8, ROW 8, ROW 0", x.where(0, 12, -1), 88);
        x.mend(0, 7, 0);
        bytes(x, 0, 3, 2, 1, 3);
        due(10, "not beyond COLUMN 0", x.where(0, 4, -1), 10);
        bytes(x, 0, 5, -1, 127, -128);
        due(10, "other bytes: he stays", x.where(0, 4, -1), 0);
    }

    private static void best() {
        OnOneBreath x = new OnOneBreath();
        int[][] bad = {{0, -1}, {6, -1}, {-1, 0}, {LEAST, 0}, {MOST, 0}, {1, -2}, {5, LEAST}};
        for (int[] b : bad) {
            due(11, "best(" + b[0] + ", " + b[1] + ")", x.best(b[0], b[1]), VOID);
        }
        due(11, "not as many", x.best(2, 2), NOT);
        due(11, "not as many", x.best(2, MOST), NOT);
        due(11, "BAULK needs three", x.best(2, -1), -1);
        due(11, "the first by numbers: 0, 1", x.best(2, 0), 0);
        due(11, "the first by numbers: 0, 1", x.best(2, 1), 1);
        due(11, "three", x.best(3, -1), 0);
        due(11, "1, 1, 1", x.best(3, 0), 1);
        due(11, "four: 0, 1, 1, 1", x.best(4, 0), 0);
        due(11, "four: 0, 1, 1, 1", x.best(4, 3), 1);

        // Stones at 15 and 13: both are 1 away from 14, one more at 24 too.
        lawOf(x, "0");
        x.defender(15, 1);
        due(11, "it changes with a DEFENDER", x.best(2, -1), 1);
        x.defender(13, 1);
        x.defender(24, 1);
        due(11, "one second", x.best(1, -1), 3);
        due(11, "one second, the move", x.best(1, 0), 1);
        due(11, "two: 0, 1", x.best(2, 0), 0);
        x.mend(0, 5, 0);
        due(11, "REACH 0, one second", x.best(1, -1), -1);
        due(11, "two: 1, 1", x.best(2, -1), 1);
        due(11, "two: 1, 1 ahead of 1, 3", x.best(2, 1), 1);
        due(11, "four", x.best(4, -1), 2);
        int[] four = {0, 1, 1, 3};
        for (int k = 0; k < 4; k++) {
            // 24 by 0, 1, 1; 23 by 3; then 13 on the way back.
            due(11, "four, move " + k, x.best(4, k), four[k]);
        }
        x.mend(0, 4, 2);
        due(11, "two seconds of BREATH", x.best(4, -1), -1);
        due(11, "1, 2 home; then the first", x.best(4, 2), 0);
        x.mend(2, 3, 0);
        due(11, "and one not IN is none", x.best(2, -1), -1);
        x.mend(0, 4, 1);
        due(11, "a second of BREATH: all LOST", x.best(3, -1), -2);
        due(11, "all LOST, the first", x.best(3, 0), 0);

        // All hold: 14 is held by 9 of MIGHT 8; so nothing is better than to wait and lose.
        OnOneBreath y = new OnOneBreath();
        lawOf(y, "3");
        y.defender(14, 9);
        due(11, "held by 9 of 9", y.best(1, -1), 1);
        y.mend(0, 6, 8);
        due(11, "CAUGHT by 9 of 8", y.best(1, -1), -2);
        due(11, "CAUGHT or LOST, the first", y.best(1, 0), 0);
        due(11, "round it", y.best(3, -1), -1);
        y.allIn();
        due(11, "again", y.best(3, -1), -1);
        due(11, "five: as deep as BAULK beside it", y.best(5, -1), 0);
        int[] five = {3, 3, 1, 1, 1};
        for (int k = 0; k < 5; k++) {
            due(11, "five, move " + k, y.best(5, k), five[k]);
        }
        due(11, "no change", y.count(3), 1);
    }

    private static void touch() {
        OnOneBreath x = new OnOneBreath();
        due(12, "nobody", x.touch(0, -1), BAD);
        lawOf(x, "0");
        x.defender(14, 1);
        x.defender(26, 1);
        x.defender(60, 1);
        x.defender(44, 1);
        x.mend(3, 3, 0);
        due(12, "not IN", x.touch(3, -1), BAD);
        due(12, "defender -1", x.touch(-1, -1), BAD);
        due(12, "defender 4", x.touch(4, -1), BAD);
        due(12, "k -2", x.touch(0, -2), BAD);
        due(12, "one second", x.touch(0, -1), 1);
        due(12, "its move", x.touch(0, 0), 1);
        due(12, "not as many", x.touch(0, 1), NOT);
        // 26 within 1 from 16, 25, 27, 36: the fewest are three seconds, and 1, 1, 4 is the first of them.
        due(12, "three seconds", x.touch(1, -1), 3);
        int[] three = {1, 1, 4};
        for (int k = 0; k < 3; k++) {
            due(12, "move " + k, x.touch(1, k), three[k]);
        }
        due(12, "not as many", x.touch(1, 3), NOT);
        due(12, "too far", x.touch(2, -1), NOT);
        due(12, "too far, a move", x.touch(2, 0), NOT);
        x.mend(0, 4, 4);
        // Back from 25 takes two more: five are needed; by 16 (4, 4, 1) one more: four.
        due(12, "BREATH 4", x.touch(1, -1), 3);
        due(12, "BREATH 4: 1, 4, 4", x.touch(1, 1), 4);
        x.mend(0, 4, 3);
        due(12, "BREATH 3", x.touch(1, -1), NOT);
        x.mend(0, 4, 20);
        x.mend(2, 0, 4);
        due(12, "five seconds", x.touch(2, -1), 5);
        due(12, "five seconds, the last", x.touch(2, 4), 1);
        x.mend(2, 0, 3);
        due(12, "six seconds", x.touch(2, -1), NOT);
        due(12, "mended back", x.touch(1, 2), 4);
        // Those who hold at once: 0 is STRONG 1 of MIGHT 0.
        lawOf(x, "3");
        x.mend(0, 6, 0);
        due(12, "CAUGHT as he touches", x.touch(0, -1), NOT);
        x.mend(0, 5, 2);
        // From 13 he would be held: 12 it is.
        due(12, "by REACH 2", x.touch(0, -1), 3);
        due(12, "by REACH 2: 3, 3, 1", x.touch(0, 0), 3);
        due(12, "by REACH 2: 3, 3, 1", x.touch(0, 2), 1);
        due(12, "by REACH 2, too far", x.touch(2, -1), NOT);
    }

    private static void needs() {
        OnOneBreath x = new OnOneBreath();
        due(13, "nothing", x.needs(0), -11);
        due(13, "shelf -1", x.needs(-1), BAD);
        due(13, "shelf 6", x.needs(6), BAD);
        x.row(0, 1, 3);
        due(13, "shorts", x.needs(0), -12);
        bytes(x, 0, 1, 0, 3, 2);
        due(13, "four seconds", x.needs(0), 4);
        x.mend(0, 4, 1);
        due(13, "whatever BREATH is", x.needs(0), 4);
        bytes(x, 0, 1, 1, 2);
        due(13, "never home", x.needs(0), NOT);
        x.row(0, 0, 60);
        x.put(0, 0, 1);
        x.put(0, 59, 2);
        due(13, "sixty", x.needs(0), 60);
        x.defender(14, 5);
        lawOf(x, "3");
        x.mend(0, 6, 4);
        due(13, "CAUGHT", x.needs(0), NOT);
    }

    private static void spared() {
        OnOneBreath x = new OnOneBreath();
        due(14, "nothing", x.spared(0), -11);
        due(14, "shelf 6", x.spared(6), BAD);
        x.row(0, 2, 3);
        due(14, "ints", x.spared(0), -12);
        bytes(x, 0, 1, 2);
        due(14, "nobody", x.spared(0), 0);
        lawOf(x, "3");
        x.defender(14, 6);
        x.defender(15, 3);
        x.defender(13, 1);
        x.defender(24, 9);
        x.defender(80, 9);
        x.mend(3, 3, 0);
        // 6, 3 and 1 hold: 10 over 9; without any of them 9 or less.
        due(14, "each of three", x.spared(0), 7);
        x.mend(0, 6, 6);
        // 10 over 6: without 6 it is 4; without 3 it is 7; without 1 it is 9.
        due(14, "the strong one", x.spared(0), 1);
        x.mend(0, 6, 3);
        due(14, "none alone", x.spared(0), 0);
        x.mend(0, 6, 10);
        due(14, "not CAUGHT", x.spared(0), 0);
        due(14, "IN stays", x.count(1), 4);
        x.mend(0, 6, 9);
        lawOf(x, "n>3?3");
        due(14, "without any of them they are too few", x.spared(0), 23);
    }

    private static void stand() {
        OnOneBreath x = new OnOneBreath();
        x.defender(88, 9);
        x.defender(87, 9);
        x.mend(1, 3, 0);
        due(15, "nothing", x.stand(0, 0, 0), VOID);
        bytes(x, 0, 1, 2);
        due(15, "shelf 6", x.stand(6, 0, 0), VOID);
        due(15, "shelf -1", x.stand(-1, 0, 0), VOID);
        due(15, "defender 2", x.stand(0, 2, 0), VOID);
        due(15, "defender -1", x.stand(0, -1, 0), VOID);
        due(15, "not IN", x.stand(0, 1, 0), VOID);
        due(15, "what 2", x.stand(0, 0, 2), VOID);
        due(15, "what -1", x.stand(0, 0, -1), VOID);
        x.row(1, 1, 2);
        due(15, "shorts", x.stand(1, 0, 0), VOID);
        lawOf(x, "3");
        x.mend(0, 6, 8);
        // It holds him from 13, 14, 15, 24: the least of them.
        due(15, "where", x.stand(0, 0, 0), 13);
        due(15, "that", x.stand(0, 0, 1), -2);
        x.mend(0, 6, 9);
        // Nothing holds him: anywhere but there he gets no point, and they one.
        due(15, "where, no hold", x.stand(0, 0, 0), 10);
        due(15, "that, no hold", x.stand(0, 0, 1), -1);
        x.mend(0, 8, 1);
        due(15, "BAULK 1: nothing", x.stand(0, 0, 1), 0);
        x.mend(0, 6, 8);
        x.mend(0, 7, 0);
        bytes(x, 0, 1, 1, 1, 1, 1, 1, 1, 1, 2, 2, 2, 2, 2, 2, 2, 2);
        lawOf(x, "r>7?3");
        due(15, "the last COLUMN is 0, ROW 7", x.stand(0, 0, 0), 70);
        x.mend(0, 7, 8);
        due(15, "the last COLUMN is 8, ROW 7", x.stand(0, 0, 0), 78);
        due(15, "it stands where it stood", x.of(0, 1), 8);
        // Touched wherever it stands in his way: he brings least where he does not pass.
        x.mend(0, 6, 40);
        due(15, "out of his way", x.stand(0, 0, 0), 10);
        due(15, "out of his way, that", x.stand(0, 0, 1), 0);
        x.mend(0, 7, 0);
        due(15, "out of his way in COLUMN 0", x.stand(0, 0, 0), 12);
        x.mend(0, 5, 3);
        due(15, "out of his REACH", x.stand(0, 0, 0), 14);
        bytes(x, 0, 1, 1, 1, 1, 4, 4, 4, 4, 4, 4, 4, 4, 2, 2, 2, 2);
        due(15, "ROW 8 alone is out of it", x.stand(0, 0, 0), 80);
        due(15, "ROW 8 alone is out of it, that", x.stand(0, 0, 1), 0);
    }

    private static void mightHe() {
        OnOneBreath x = new OnOneBreath();
        due(16, "nothing", x.mightHe(0), -11);
        due(16, "shelf 6", x.mightHe(6), BAD);
        x.row(0, 3, 3);
        due(16, "longs", x.mightHe(0), -12);
        bytes(x, 0, 1, 0, 2);
        due(16, "nobody", x.mightHe(0), 0);
        lawOf(x, "3");
        x.defender(14, 9);
        x.defender(14, 3);
        due(16, "12", x.mightHe(0), 12);
        x.mend(0, 6, 0);
        due(16, "whatever MIGHT is", x.mightHe(0), 12);
        lawOf(x, "b>0?3");
        due(16, "in the second second", x.mightHe(0), 12);
        lawOf(x, "b+s=10?3;b+s=3?3");
        due(16, "not at once: 9 and 3", x.mightHe(0), 9);
        lawOf(x, "3");
        x.defender(14, 9);
        x.defender(14, 9);
        x.defender(14, 9);
        x.mend(1, 2, 4);
        due(16, "40", x.mightHe(0), 40);
        x.mend(1, 2, 5);
        due(16, "41", x.mightHe(0), NOT);
        bytes(x, 0);
        due(16, "LOST is not CAUGHT", x.mightHe(0), 0);
    }

    private static void line() {
        OnOneBreath x = new OnOneBreath();
        due(17, "what -1", x.line(-1), BAD);
        due(17, "what 3", x.line(3), BAD);
        for (int what = 0; what < 3; what++) {
            due(17, "nobody", x.line(what), 0);
        }
        x.defender(10, 1);
        x.defender(88, 1);
        x.defender(11, 1);
        x.defender(21, 1);
        x.defender(32, 1);
        x.defender(31, 1);
        x.defender(88, 1);
        due(17, "CORNERS", x.line(0), 67);
        due(17, "ALONE", x.line(1), 0);
        due(17, "CHAIN", x.line(2), 5);
        x.mend(3, 3, 0);
        due(17, "CHAIN, parted", x.line(2), 2);
        x.mend(6, 3, 0);
        due(17, "CORNERS of those IN", x.line(0), 3);
        due(17, "ALONE, the other not IN", x.line(1), 2);
        x.mend(2, 3, 0);
        due(17, "ALONE, two", x.line(1), 3);
        // Aslant is 2 apart.
        x.mend(5, 0, 3);
        x.mend(5, 1, 4);
        due(17, "ALONE, aslant", x.line(1), 51);
        due(17, "CHAIN, aslant", x.line(2), 1);
    }

    private static void left() {
        OnOneBreath x = new OnOneBreath();
        int[][] bad = {{-1, 0, 0}, {21, 0, 0}, {0, -31, 0}, {0, 31, 0}, {0, 0, -1}, {0, 0, 2}, {LEAST, 0, 0}, {0, MOST, 0}};
        for (int[] b : bad) {
            due(18, "left(" + b[0] + ", " + b[1] + ", " + b[2] + ")", x.left(b[0], b[1], b[2]), BAD);
        }
        due(18, "ahead", x.left(0, 1, 0), 1000000);
        due(18, "a tie", x.left(0, 0, 0), 500000);
        due(18, "behind", x.left(0, -1, 0), 0);
        due(18, "n 0, which", x.left(0, 0, 1), 0);
        due(18, "n 1", x.left(1, 0, 0), 437499);
        due(18, "far ahead", x.left(10, 30, 0), 1000000);
        due(18, "far behind", x.left(20, -30, 0), 0);
        due(18, "far behind, which", x.left(20, -30, 1), 0);
        // Ahead by 1: (2 * 500000 + 10 * 1000000) / 12 = 916666 behind their raid; by 2: 1000000; by 0: 416666.
        // DEEP: (3 * 1000000 + 3 * 416666 + 6 * 916666) / 12 = 812499; SHORT: (1000000 + 416666 + 10 * 916666) / 12 = 881943.
        due(18, "ahead by 1", x.left(1, 1, 0), 881943);
        due(18, "ahead by 1: SHORT", x.left(1, 1, 1), 0);
        due(18, "a tie: DEEP", x.left(1, 0, 1), 1);
        due(18, "n 0 behind it", x.left(0, 0, 1), 0);
        // Behind by 1: DEEP: 3 * 416666 / 12 = 104166; SHORT: 34722.
        due(18, "behind by 1", x.left(1, -1, 0), 104166);
        due(18, "behind by 1: DEEP", x.left(1, -1, 1), 1);
        x.mend(0, 9, 1);
        x.mend(0, 10, 1);
        due(18, "like ones: 0", x.left(1, -1, 1), 0);
        // As far as there is so much left: DEEP 10 of twelve leaves 2 to lose, not 12.
        x.mend(0, 9, 10);
        x.mend(0, 10, 12);
        due(18, "DEEP 10, LOST 12", x.left(1, 0, 0), (10 * 916666 + 2 * 0) / 12);
        x.mend(0, 9, 12);
        x.mend(0, 13, 0);
        due(18, "a point each", x.left(1, 0, 0), 1000000);
        due(18, "twenty points", x.left(20, -19, 0), 1000000);
        due(18, "twenty points, a tie", x.left(20, -20, 0), 500000);
        due(18, "twenty points, one less", x.left(20, -21, 0), 0);
        x.mend(0, 9, 0);
        x.mend(0, 10, 12);
        x.mend(0, 11, 0);
        x.mend(0, 12, 12);
        x.mend(0, 13, 12);
        due(18, "two lost a round", x.left(14, 29, 0), 1000000);
        due(18, "two lost a round, a tie", x.left(15, 30, 0), 500000);
        due(18, "two lost a round, behind", x.left(20, 30, 0), 0);
    }

    private static void third() {
        OnOneBreath x = new OnOneBreath();
        int[][] bad = {{-1, 0, 0, 0}, {21, 0, 0, 0}, {0, -31, 0, 0}, {0, 31, 0, 0}, {0, 0, -1, 0}, {0, 0, 3, 0}, {0, 0, 0, -1},
            {0, 0, 0, 2}, {0, 0, MOST, 0}};
        for (int[] b : bad) {
            due(19, "third(" + b[0] + ", " + b[1] + ", " + b[2] + ", " + b[3] + ")", x.third(b[0], b[1], b[2], b[3]), BAD);
        }
        due(19, "n 0, a tie", x.third(0, 0, 2, 0), 500000);
        due(19, "n 0, which", x.third(0, 1, 2, 1), 0);
        due(19, "one, none empty", x.third(1, 0, 1, 0), 437499);
        // The third one: empty is lost; DEEP (3 * 916666 + 9 * 0) / 12 = 229166.
        due(19, "one, two empty", x.third(1, 0, 2, 0), 229166);
        due(19, "one, two empty: DEEP", x.third(1, 0, 2, 1), 1);
        // Only empty ones: of three the third loses, of five with two ahead the first and the fourth.
        for (int what = 9; what <= 13; what++) {
            x.mend(0, what, 0);
        }
        due(19, "two empty ones", x.third(2, 0, 0, 0), 500000);
        due(19, "three empty ones", x.third(3, 0, 0, 0), 0);
        due(19, "three empty ones, ahead by 1", x.third(3, 1, 0, 0), 500000);
        due(19, "five, two ahead empty: 1st and 4th lose", x.third(5, 2, 2, 0), 500000);
        due(19, "three, two ahead empty: 1st loses", x.third(3, 1, 2, 0), 500000);
        due(19, "four, one ahead empty: 2nd loses", x.third(4, 1, 1, 0), 500000);
        due(19, "twenty, none ahead: six lose", x.third(20, 6, 0, 0), 500000);
        due(19, "left has no third ones", x.left(20, 0, 0), 500000);
        // A lost one is not empty: all lost, and no more than that.
        x.mend(0, 12, 12);
        x.mend(0, 10, 12);
        due(19, "all lost", x.third(3, 3, 2, 0), 500000);
    }

    private static void judge() {
        OnOneBreath x = new OnOneBreath();
        int[] bad = {0, 7, 10, 18, 81, 88, 8, 80, 70, -11, 111, LEAST, MOST};
        for (int sizes : bad) {
            due(20, "sizes " + sizes, x.judge(0, sizes), BAD);
        }
        due(20, "shelf 6", x.judge(6, 11), BAD);
        due(20, "shelf -1", x.judge(-1, 11), BAD);
        due(20, "nothing", x.judge(0, 11), -11);
        x.row(0, 1, 1);
        due(20, "shorts", x.judge(0, 11), -12);
        bytes(x, 0, 0, 0, 0);
        due(20, "all can be", x.judge(0, 11), NOT);
        bytes(x, 0, 0, 9);
        due(20, "a byte 9", x.judge(0, 77), 1);
        bytes(x, 0, -1);
        due(20, "a byte -1", x.judge(0, 77), 0);
        bytes(x, 0, 0, 3);
        due(20, "as many as they have IN", x.judge(0, 37), NOT);
        due(20, "more than they have IN", x.judge(0, 27), 1);
        bytes(x, 0, 0, 3, 0);
        due(20, "nobody IN to raid", x.judge(0, 37), 2);
        bytes(x, 0, 8, 0, 0);
        due(20, "the raider was the only one", x.judge(0, 17), 2);
        bytes(x, 0, 8, 8, 0, 0);
        due(20, "one gets back", x.judge(0, 11), 3);
        bytes(x, 0, 7, 8);
        due(20, "none of seven", x.judge(0, 77), 1);
    }

    private static void bench() {
        OnOneBreath x = new OnOneBreath();
        due(21, "nothing", x.bench(0, 11, 0, 0), -11);
        x.row(0, 2, 1);
        due(21, "ints", x.bench(0, 11, 0, 0), -12);
        bytes(x, 0, 0);
        int[][] bad = {{-1, 11, 0, 0}, {6, 11, 0, 0}, {0, 10, 0, 0}, {0, 81, 0, 0}, {0, 11, -1, 0}, {0, 11, 2, 0}, {0, 11, 0, -1},
            {0, 11, 0, 3}};
        for (int[] b : bad) {
            due(21, "bad", x.bench(b[0], b[1], b[2], b[3]), BAD);
        }
        // Ours 7, theirs 5. 2: their 0, 1 out. 3: our 0, 1, 2 out, their 0, 1 back. 8: our 3 out, none of theirs is out.
        // 8: their 0 out, our 0 back. 1: their 1 out, our 1 back.
        bytes(x, 0, 2, 3, 8, 8, 1);
        due(21, "ours IN", x.bench(0, 75, 0, 0), 0b1110011);
        due(21, "ours out longest", x.bench(0, 75, 0, 1), 2);
        due(21, "our points", x.bench(0, 75, 0, 2), 2 + 1 + 1);
        due(21, "theirs IN", x.bench(0, 75, 1, 0), 0b11100);
        due(21, "theirs out longest", x.bench(0, 75, 1, 1), 0);
        due(21, "their points", x.bench(0, 75, 1, 2), 3 + 1);
        // The first out first, not the least: our 1 is out ahead of 0, which came back in between.
        bytes(x, 0, 0, 2, 1, 1);
        // 2: our 0, 1 out. 1: their 0 out, our 0 back. 1: our 0 out again, their 0 back. Out: 1, 0.
        due(21, "out longest is 1", x.bench(0, 33, 0, 1), 1);
        due(21, "IN", x.bench(0, 33, 0, 0), 0b100);
        due(21, "theirs all IN", x.bench(0, 33, 1, 0), 0b111);
        due(21, "theirs, none out", x.bench(0, 33, 1, 1), NOT);
        // As far as it can be: 9 ends it.
        bytes(x, 0, 1, 1, 9, 1);
        due(21, "points as far as it can be", x.bench(0, 33, 1, 2), 1);
        due(21, "IN as far as it can be", x.bench(0, 33, 0, 0), 0b110);
        bytes(x, 0, 4, 1);
        due(21, "none can be", x.bench(0, 33, 0, 2), 0);
        due(21, "none can be, IN", x.bench(0, 33, 1, 0), 0b111);
        bytes(x, 0);
        due(21, "an empty sheet", x.bench(0, 17, 1, 0), 127);
    }

    private static void drawn() {
        OnOneBreath x = new OnOneBreath();
        int[][] bad = {{1, 0, 0}, {1, 51, 0}, {1, 1, -1}, {1, 1, 2}, {1, LEAST, 0}, {1, MOST, 0}};
        for (int[] b : bad) {
            due(22, "bad", x.drawn(b[0], b[1], b[2]), BAD);
        }
        due(22, "nobody", x.drawn(5, 50, 0), 0);
        due(22, "one raid", x.drawn(5, 1, 0), 0);
        // All hold with 9 over MIGHT 0 wherever he steps in ROW 1: the first step deeper beside one is CAUGHT.
        lawOf(x, "3");
        for (int i = 0; i < 7; i++) {
            x.defender(11 + i, 9);
        }
        x.mend(0, 6, 0);
        x.mend(0, 4, 60);
        int caught = 0;
        int z = 99;
        for (int raid = 0; raid < 50; raid++) {
            for (int second = 0; second < 60; second++) {
                z = z * 1103515245 + 12345;
                if ((z >>> 8) % 5 == 1) {
                    caught++;
                    break;
                }
            }
        }
        due(22, "CAUGHT", x.drawn(99, 50, 1), caught);
        due(22, "points", x.drawn(99, 50, 0), 0);
        // Stones and MIGHT: he comes home with all that he passes; BAULK 1 makes every second odd draw a step back.
        OnOneBreath y = new OnOneBreath();
        lawOf(y, "0");
        y.defender(14, 1);
        y.mend(0, 8, 1);
        y.mend(0, 4, 2);
        int points = 0;
        z = -7;
        for (int raid = 0; raid < 30; raid++) {
            z = z * 1103515245 + 12345;
            boolean deep = (z >>> 8) % 5 == 1;
            z = z * 1103515245 + 12345;
            boolean free = !deep || (z >>> 16 & 1) == 0;
            points += deep && (free ? (z >>> 8) % 5 : 2) == 2 ? 1 : 0;
        }
        due(22, "points together", y.drawn(-7, 30, 0), points);
        due(22, "none CAUGHT", y.drawn(-7, 30, 1), 0);
        due(22, "nothing in deed", y.led(0) + y.count(3) - 2, 0);
    }

    /** Stones at 14, 24, 13, 80, 81: a raid by 1, 2 touches three of them. */
    private static OnOneBreath stones() {
        OnOneBreath x = new OnOneBreath();
        lawOf(x, "0");
        int[] cells = {14, 24, 13, 80, 81};
        for (int cell : cells) {
            x.defender(cell, 5);
        }
        bytes(x, 0, 1, 2);
        return x;
    }

    private static int inside(OnOneBreath x) {
        int bits = 0;
        for (int i = 0; i < x.count(0); i++) {
            bits |= x.of(i, 3) << i;
        }
        return bits;
    }

    private static void go() {
        OnOneBreath x = stones();
        due(23, "shelf 6", x.go(6), BAD);
        due(23, "shelf -1", x.go(-1), BAD);
        due(23, "nothing", x.go(1), -11);
        x.row(1, 4, 0);
        due(23, "booleans", x.go(1), -12);
        due(23, "no raid so far", x.led(0), 0);
        due(23, "HOME", x.go(0), 1);
        due(23, "TOUCHED are not IN", inside(x), 0b11000);
        due(23, "HOME, never deep, none TOUCHED", x.go(0), 1);
        due(23, "the least comes back", inside(x), 0b11001);
        bytes(x, 1);
        due(23, "LOST", x.go(1), 3);
        due(23, "two come back, three were IN", inside(x), 0b11111);
        lawOf(x, "3");
        due(23, "CAUGHT by 15", x.go(0), 2);
        due(23, "TOUCHED stay IN, unless HOME", inside(x), 0b11111);
        x.mend(1, 3, 0);
        x.mend(3, 3, 0);
        due(23, "CAUGHT by 10, three IN", x.go(0), 2);
        due(23, "two come back", inside(x), 0b11111);
        // Where all stand stays, though the law without a text moves them.
        OnOneBreath y = new OnOneBreath();
        y.defender(25, 5);
        bytes(y, 0, 1, 1, 1, 1, 1);
        due(23, "LOST", y.go(0), 3);
        due(23, "where it stood", y.of(0, 1), 2);
        due(23, "no change", y.count(3), 0);
    }

    private static void allIn() {
        OnOneBreath x = stones();
        due(24, "all are", x.allIn(), 0);
        x.go(0);
        due(24, "three were not", x.allIn(), 3);
        due(24, "all are IN", x.count(1), 5);
        x.mend(4, 3, 0);
        due(24, "one was not", x.allIn(), 1);
        due(24, "no change", x.count(3), 1);
        due(24, "nobody", new OnOneBreath().allIn(), 0);
    }

    private static void led() {
        OnOneBreath x = stones();
        due(25, "what -1", x.led(-1), BAD);
        due(25, "what 5", x.led(5), BAD);
        x.go(0);
        x.go(0);
        bytes(x, 1, 1);
        x.go(1);
        lawOf(x, "3");
        x.mend(0, 6, 0);
        x.allIn();
        x.go(0);
        // HOME with 3; HOME with none, one for THEM; LOST of 20 seconds with three IN, two; CAUGHT in one second, one.
        int[] due = {4, 3, 1 + 2 + 1, 2 + 2 + 20 + 1, 1};
        for (int what = 0; what < 5; what++) {
            due(25, "led(" + what + ")", x.led(what), due[what]);
        }
    }

    private static void image() {
        OnOneBreath x = stones();
        due(26, "no raids", x.image(), 0);
        x.go(0);
        due(26, "one raid", x.image(), 1);
        x.allIn();
        x.go(0);
        due(26, "back to the later image", x.back(), 1);
        due(26, "IN", inside(x), 0b11000);
        due(26, "no change", x.count(3), 0);
    }

    private static void back() {
        OnOneBreath x = stones();
        due(27, "none", x.back(), STATE);
        x.mend(4, 3, 0);
        x.image();
        x.go(0);
        x.defender(55, 5);
        x.defender(56, 5);
        x.mend(6, 3, 0);
        x.mend(0, 0, 7);
        x.mend(0, 4, 33);
        due(27, "raids", x.back(), 0);
        due(27, "IN, those that came since as it is", inside(x), 0b0101111);
        for (int what = 0; what < 5; what++) {
            due(27, "led(" + what + ")", x.led(what), 0);
        }
        due(27, "mended ones stay", x.of(0, 0), 7);
        due(27, "BREATH stays", x.of(0, 4), 33);
        due(27, "changes stay", x.count(3), 4);
        x.go(0);
        due(27, "again", x.back(), 0);
        due(27, "again, IN", inside(x), 0b0101111);
    }

    private static void undo() {
        OnOneBreath x = new OnOneBreath();
        due(28, "none", x.undo(), STATE);
        x.defender(55, 5);
        due(28, "a defender is none", x.undo(), STATE);
        x.mend(0, 4, 20);
        due(28, "the same number is none", x.undo(), STATE);
        x.mend(0, 4, 99);
        due(28, "a refused one is none", x.undo(), STATE);
        x.mend(0, 4, 21);
        x.mend(0, 0, 1);
        x.mend(0, 3, 0);
        x.mend(0, 13, 9);
        due(28, "three may still be", x.undo(), 3);
        due(28, "THEIRS", x.of(0, 13), 2);
        due(28, "two may still be", x.undo(), 2);
        due(28, "IN", x.of(0, 3), 1);
        due(28, "one may still be", x.undo(), 1);
        due(28, "COLUMN", x.of(0, 0), 5);
        due(28, "none may still be", x.undo(), 0);
        due(28, "BREATH", x.of(0, 4), 20);
        due(28, "none", x.undo(), STATE);
        for (int i = 0; i < 45; i++) {
            x.mend(0, 6, i % 41);
        }
        due(28, "forty are kept", x.count(3), 40);
        for (int i = 39; i >= 0; i--) {
            due(28, "of forty", x.undo(), i);
        }
        due(28, "what the fifth told", x.of(0, 6), 4);
        due(28, "no more", x.undo(), STATE);
    }

    private static void redo() {
        OnOneBreath x = new OnOneBreath();
        x.defender(55, 5);
        due(29, "none", x.redo(), STATE);
        x.mend(0, 2, 1);
        x.mend(0, 2, 2);
        x.mend(0, 2, 3);
        due(29, "none", x.redo(), STATE);
        x.undo();
        x.undo();
        x.undo();
        due(29, "two may still be", x.redo(), 2);
        due(29, "STRONG 1", x.of(0, 2), 1);
        due(29, "one is done", x.count(3), 1);
        x.mend(0, 2, 1);
        x.mend(0, 2, 10);
        x.allIn();
        bytes(x, 0, 1, 2);
        x.go(0);
        due(29, "none of these is a change", x.redo(), 1);
        due(29, "STRONG 2", x.of(0, 2), 2);
        x.undo();
        x.mend(0, 7, 8);
        due(29, "another came behind", x.redo(), STATE);
        due(29, "two are kept", x.count(3), 2);
        due(29, "undone", x.undo(), 1);
        due(29, "START", x.of(0, 7), 4);
        due(29, "done again", x.redo(), 0);
        due(29, "START", x.of(0, 7), 8);
        for (int i = 0; i < 50; i++) {
            x.mend(0, 6, i % 2);
        }
        for (int i = 0; i < 40; i++) {
            x.undo();
        }
        for (int i = 39; i >= 0; i--) {
            due(29, "of forty", x.redo(), i);
        }
        due(29, "forty done", x.count(3), 40);
        due(29, "the last one", x.of(0, 6), 1);
        manyChanges();
    }

    /** 44 changes of all sorts: the first four cannot be UNDONE any more. */
    private static void manyChanges() {
        OnOneBreath x = new OnOneBreath();
        for (int i = 0; i < 4; i++) {
            x.defender(11, 0);
        }
        for (int round = 0; round < 11; round++) {
            x.mend(round % 4, 0, 2 + (round + 1) % 3);
            x.mend(round % 4, 2, 1 + round % 8);
            x.mend(0, 4, 30 + round);
            x.mend(0, 9 + round % 5, 12 - round % 2);
        }
        due(28, "changes of all sorts", x.count(3), 40);
        int[] before = state(x);
        for (int i = 0; i < 40; i++) {
            x.undo();
        }
        // What the first round told stands: defender 0 in COLUMN 3, STRONG 1, BREATH 30, DEEP 12.
        int[] first = {3, 1, 1, 1, 1, 1, 0, 1, 1, 1, 0, 1, 1, 1, 0, 1, 30, 1, 9, 4, 3, 12, 3, 1, 1, 2};
        int[] undone = state(x);
        for (int i = 0; i < first.length; i++) {
            due(28, "undone, number " + i, undone[i], first[i]);
        }
        for (int i = 0; i < 40; i++) {
            x.redo();
        }
        int[] after = state(x);
        for (int i = 0; i < before.length; i++) {
            due(29, "done again, number " + i, after[i], before[i]);
        }
    }

    /** All numbers of mend(): of four DEFENDERS, then the others. */
    private static int[] state(OnOneBreath x) {
        int[] all = new int[26];
        for (int i = 0; i < 16; i++) {
            all[i] = x.of(i / 4, i % 4);
        }
        for (int what = 4; what < 14; what++) {
            all[12 + what] = x.of(0, what);
        }
        return all;
    }

    private static void body() {
        OnOneBreath x = new OnOneBreath();
        due(30, "kind -1", x.body(-1), BAD);
        due(30, "kind 8", x.body(8), BAD);
        for (int i = 0; i < 50; i++) {
            due(30, "body", x.body(i % 8), i);
        }
        due(30, "the 51st", x.body(0), FULL);
        due(30, "the 51st, kind 8", x.body(8), BAD);
        due(30, "count(4)", x.count(4), 50);
        due(30, "the last one is kept", x.act(49, 0, 1), 1 + 49 + 3);
    }

    private static OnOneBreath eightKinds() {
        OnOneBreath x = new OnOneBreath();
        for (int kind = 0; kind < 8; kind++) {
            x.body(kind);
        }
        return x;
    }

    private static void act() {
        OnOneBreath x = eightKinds();
        int[][] due = {
            // goes(5), touches(5), holds(5), tells(5); n is the kind's number here.
            {5, 10, 5, 10 - 1},
            {9, 18, 4, 18 - 0},
            {7, -14, 7, -14 - 3},
            {8, -18, 18, -18 - 6},
            {12, 24, 1, 24 - 5 ^ 5},
            {10, -22, 0 - 7, -22 - (12 - 7) + 1},
            {22, 44, 3, 44 - 7},
            {23, 46 + 5, 2, 51 - 6}};
        for (int kind = 0; kind < 8; kind++) {
            for (int act = 0; act < 4; act++) {
                due(31, "kind " + kind + ", act " + act, x.act(kind, act, 5), due[kind][act]);
            }
        }
        due(31, "it wraps", x.act(1, 0, MOST), LEAST + 3);
        due(31, "it wraps by 2", x.act(0, 1, 0x40000000), LEAST);
        due(31, "its number", x.body(0), 8);
        due(31, "n", x.act(8, 0, 5), 13);
        due(31, "n ^", x.act(8, 2, 12), 4);
        int[][] none = {{-1, 0}, {9, 0}, {0, -1}, {0, 4}, {LEAST, 0}, {MOST, 3}};
        for (int[] b : none) {
            x.act(7, 3, 1);
            due(31, "none", x.act(b[0], b[1], 7), 0);
            due(31, "none, no trace", x.trace(0), BAD);
            due(31, "none, none ran", x.count(5), 0);
        }
    }

    private static void trace() {
        OnOneBreath x = eightKinds();
        due(32, "none so far", x.trace(0), BAD);
        int[][] tells = {
            {2, 10, 1, 11},
            {2, 10, 20, 1, 11},
            {2, 30, 10, 1, 11},
            {2, 41, 30, 10, 1, 40, 11},
            {50, 2, 10, 20, 1, 11},
            {61, 2, 41, 30, 10, 1, 60, 40, 11, 1},
            {2, 10, 70, 1, 11},
            {2, 80, 10, 81, 70, 1, 11, 11}};
        for (int kind = 0; kind < 8; kind++) {
            x.act(kind, 3, 5);
            due(32, "count(5) of kind " + kind, x.count(5), tells[kind].length);
            for (int i = 0; i < tells[kind].length; i++) {
                due(32, "kind " + kind + ", trace(" + i + ")", x.trace(i), tells[kind][i]);
            }
            due(32, "kind " + kind + ", behind it", x.trace(tells[kind].length), BAD);
        }
        due(32, "trace(-1)", x.trace(-1), BAD);
        due(32, "trace(24)", x.trace(24), BAD);
        due(32, "trace most", x.trace(MOST), BAD);
    }

    private static void keep() {
        OnOneBreath x = new OnOneBreath();
        due(33, "no body", x.keep(0, 0), BAD);
        due(33, "nothing", x.keep(0, -1), 1);
        x.body(4);
        due(33, "shelf -1", x.keep(-1, 0), BAD);
        due(33, "shelf 6", x.keep(6, 0), BAD);
        due(33, "shelf 6, nothing", x.keep(6, -1), BAD);
        due(33, "body -2", x.keep(0, -2), BAD);
        due(33, "body 1", x.keep(0, 1), BAD);
        due(33, "a body", x.keep(5, 0), 1);
        due(33, "it is there", x.taken(5, 4), 4);
        due(33, "refused", x.keep(5, 7), BAD);
        due(33, "it is still there", x.taken(5, 4), 4);
        due(33, "nothing again", x.keep(5, -1), 1);
        due(33, "it is gone", x.taken(5, 4), -11);
        x.row(5, 0, 3);
        x.keep(5, 0);
        due(33, "the row is gone", x.put(5, 0, 1), -12);
        x.row(5, 0, 3);
        x.keep(5, -1);
        due(33, "the row is gone", x.put(5, 0, 1), -11);
    }

    private static void row() {
        OnOneBreath x = new OnOneBreath();
        int[][] bad = {{-1, 0, 1}, {6, 0, 1}, {0, -1, 1}, {0, 5, 1}, {0, 0, 61}, {0, 0, MOST}, {0, 5, -1}, {6, 0, -1}};
        for (int[] b : bad) {
            due(34, "bad", x.row(b[0], b[1], b[2]), BAD);
        }
        due(34, "below 0", x.row(0, 0, -1), -14);
        due(34, "least", x.row(0, 4, LEAST), -14);
        due(34, "nothing came", x.put(0, 0, 1), -11);
        for (int sort = 0; sort < 5; sort++) {
            due(34, "sixty", x.row(sort, sort, 60), 1);
            due(34, "the last one", x.element(sort, 59), 0);
            due(34, "behind it", x.put(sort, 60, 1), -13);
            x.put(sort, 3, 1);
            due(34, "a new one", x.row(sort, sort, 5), 1);
            due(34, "all are 0 again", x.element(sort, 3), 0);
        }
        due(34, "none", x.row(5, 0, 0), 1);
        due(34, "none is there", x.put(5, 0, 1), -13);
        x.put(0, 0, 7);
        due(34, "refused", x.row(0, 0, 61), BAD);
        due(34, "refused", x.row(0, 0, -1), -14);
        due(34, "what stood stands", x.element(0, 0), 7);
    }

    private static void put() {
        OnOneBreath x = new OnOneBreath();
        due(35, "shelf -1", x.put(-1, 0, 1), BAD);
        due(35, "shelf 6", x.put(6, 0, 1), BAD);
        due(35, "nothing", x.put(0, -1, 1), -11);
        x.body(0);
        x.keep(0, 0);
        due(35, "a body", x.put(0, -1, 1), -12);
        x.row(0, 0, 3);
        int[] places = {-1, 3, LEAST, MOST};
        for (int i : places) {
            due(35, "place " + i, x.put(0, i, 1), -13);
        }
        long[] values = {0, 1, -1, 127, 128, 255, 256, 32768, 65536, 1L << 31, 1L << 32, Long.MAX_VALUE, Long.MIN_VALUE};
        for (long v : values) {
            long[] kept = {(byte) v, (short) v, (int) v, v, v != 0 ? 1 : 0};
            for (int sort = 0; sort < 5; sort++) {
                x.row(1, sort, 2);
                due(35, "put", x.put(1, 1, v), 1);
                due(35, v + " in sort " + sort, x.element(1, 1), kept[sort]);
                due(35, "the other one", x.element(1, 0), 0);
            }
        }
    }

    private static void element() {
        OnOneBreath x = new OnOneBreath();
        long none = Long.MIN_VALUE;
        due(36, "shelf -1", x.element(-1, 0), none);
        due(36, "shelf 6", x.element(6, 0), none);
        due(36, "nothing", x.element(0, 0), none);
        x.body(0);
        x.keep(0, 0);
        due(36, "a body", x.element(0, 0), none);
        x.row(0, 3, 2);
        due(36, "place -1", x.element(0, -1), none);
        due(36, "place 2", x.element(0, 2), none);
        due(36, "at first", x.element(0, 1), 0);
        x.put(0, 1, 1L << 40);
        due(36, "a long", x.element(0, 1), 1L << 40);
    }

    private static void shift() {
        OnOneBreath x = new OnOneBreath();
        bytes(x, 0, 1, 2, 3, 4, 5);
        bytes(x, 1, 9, 9, 9);
        x.row(2, 1, 5);
        x.body(0);
        x.keep(3, 0);
        due(37, "shelf -1", x.shift(-1, 0, 0, 0, 1), BAD);
        due(37, "other 6", x.shift(0, 0, 6, 0, 1), BAD);
        due(37, "nothing to", x.shift(0, 0, 4, 0, 1), -11);
        due(37, "nothing from", x.shift(4, 0, 0, 0, 1), -11);
        due(37, "nothing from, a body to", x.shift(4, 0, 3, 0, 1), -11);
        due(37, "a body", x.shift(3, 0, 0, 0, 1), -12);
        due(37, "to a body", x.shift(0, 0, 3, 0, 1), -12);
        due(37, "two bodies", x.shift(3, 0, 3, 0, 1), -12);
        due(37, "unlike sorts", x.shift(0, 0, 2, 0, 1), -12);
        due(37, "unlike sorts, n below 0", x.shift(0, 0, 2, 0, -1), -12);
        int[][] places = {{0, 0, -1}, {-1, 0, 1}, {0, -1, 1}, {5, 0, 1}, {0, 3, 1}, {3, 0, 3}, {0, 1, 3}, {0, 0, 4}, {6, 0, 0},
            {0, 4, 0}, {1, 0, MOST}, {MOST, 0, 1}, {0, MOST, 1}, {LEAST, 0, 0}, {0, 0, LEAST}};
        for (int[] p : places) {
            due(37, "places " + p[0] + ", " + p[1] + ", " + p[2], x.shift(0, p[0], 1, p[1], p[2]), -13);
        }
        due(37, "none at the ends", x.shift(0, 5, 1, 3, 0), 0);
        due(37, "two", x.shift(0, 3, 1, 1, 2), 2);
        int[] other = {9, 4, 5};
        for (int i = 0; i < 3; i++) {
            due(37, "the other one", x.element(1, i), other[i]);
        }
        due(37, "forward in the same", x.shift(0, 0, 0, 1, 4), 4);
        int[] same = {1, 1, 2, 3, 4};
        for (int i = 0; i < 5; i++) {
            due(37, "forward in the same", x.element(0, i), same[i]);
        }
        due(37, "backward in the same", x.shift(0, 1, 0, 0, 4), 4);
        int[] again = {1, 2, 3, 4, 4};
        for (int i = 0; i < 5; i++) {
            due(37, "backward in the same", x.element(0, i), again[i]);
        }
    }

    private static void taken() {
        OnOneBreath x = eightKinds();
        due(38, "shelf -1", x.taken(-1, 0), BAD);
        due(38, "shelf 6", x.taken(6, 0), BAD);
        due(38, "kind -1", x.taken(0, -1), BAD);
        due(38, "kind 8", x.taken(0, 8), BAD);
        due(38, "nothing", x.taken(0, 0), -11);
        x.row(0, 0, 3);
        due(38, "a row", x.taken(0, 0), -12);
        // The kinds each one is, from its own up.
        int[] are = {0b1, 0b11, 0b101, 0b1101, 0b10011, 0b101101, 0b1000001, 0b11000001};
        for (int kind = 0; kind < 8; kind++) {
            x.keep(1, kind);
            for (int k = 0; k < 8; k++) {
                due(38, kind + " taken for " + k, x.taken(1, k), (are[kind] >> k & 1) == 1 ? kind : -12);
            }
        }
    }

    private static void count() {
        OnOneBreath x = new OnOneBreath();
        due(39, "what -1", x.count(-1), BAD);
        due(39, "what 6", x.count(6), BAD);
        due(39, "what most", x.count(MOST), BAD);
        x.defender(55, 5);
        x.defender(56, 5);
        x.mend(1, 3, 0);
        x.mend(0, 4, 5);
        x.mend(0, 4, 6);
        x.feed(1);
        x.body(0);
        x.body(0);
        x.body(0);
        x.body(0);
        x.act(0, 1, 0);
        int[] due = {2, 1, 1, 3, 4, 2};
        for (int what = 0; what < 6; what++) {
            due(39, "count(" + what + ")", x.count(what), due[what]);
        }
        x.undo();
        due(39, "count(3) behind undo()", x.count(3), 2);
    }
}
