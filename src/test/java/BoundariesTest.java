/**
 * Sentence by sentence of the document: the ends that each one names. What is refused stands in RefusalsTest.
 * The answers are worked out by hand from the sentence that says() repeats.
 */
public final class BoundariesTest {
    private static final int BAD = -1, NOT = -2, FULL = -3, STATE = -5;
    private static final int LEAST = Integer.MIN_VALUE, MOST = Integer.MAX_VALUE;
    private static final int HOME = 1, CAUGHT = 2, LOST = 3;
    private static int wrong = 0;
    private static int asked = 0;
    private static int sentences = 0;
    private static String sentence = "";

    private static void says(String text) {
        sentence = text;
        sentences++;
    }

    private static void due(long want, long got) {
        due("", want, got);
    }

    private static void due(String what, long want, long got) {
        asked++;
        if (got != want) {
            wrong++;
            System.out.println("\"" + sentence + "\" " + what + ": answered " + got + ", due is " + want);
        }
    }

    private static void row(OnOneBreath x, int shelf, int... values) {
        x.row(shelf, 0, values.length);
        for (int i = 0; i < values.length; i++) {
            x.put(shelf, i, values[i]);
        }
    }

    private static int law(OnOneBreath x, String text) {
        for (int i = 0; i < text.length(); i++) {
            x.feed(text.charAt(i));
        }
        return x.law();
    }

    /** DEFENDERS of STRONG 5 under a law; "" leaves it without a text. */
    private static OnOneBreath half(String text, int... cells) {
        OnOneBreath x = new OnOneBreath();
        for (int cell : cells) {
            x.defender(cell, 5);
        }
        if (!text.isEmpty()) {
            law(x, text);
        }
        return x;
    }

    /** What one in cell 55 does by a text, the RAIDER in 53: d 2, r 5, b 7, s 5, n 1, c 0; or what law() answers. */
    private static int done(String text) {
        OnOneBreath x = half("", 55);
        int answer = law(x, text);
        return answer == 1 ? x.does(0, 53, 7) : answer;
    }

    private static int parsed(String text) {
        return law(new OnOneBreath(), text);
    }

    private static int fault(int place) {
        return -100 - place;
    }

    public static void main(String[] args) {
        theHalf();
        baulk();
        tape();
        grammar();
        numbersAndBytes();
        openAtOnce();
        ints();
        lines();
        names();
        withoutText();
        raiderMoves();
        touching();
        acting();
        holding();
        raids();
        points();
        inThought();
        where();
        best();
        touch();
        needs();
        spared();
        stand();
        mightHe();
        line();
        odds();
        third();
        judged();
        bench();
        drawn();
        deeds();
        image();
        changes();
        bodies();
        acts();
        trace();
        shelves();
        elements();
        shift();
        taken();
        fromRow();
        counts();
        System.out.println(sentences + " sentences, " + asked + " answers asked, " + wrong + " wrong");
        if (wrong != 0) {
            System.exit(1);
        }
    }

    // ---- 1

    private static void theHalf() {
        says("THE HALF has COLUMNS 0 .. 8");
        for (int column = 0; column <= 9; column++) {
            OnOneBreath x = new OnOneBreath();
            due("column " + column, column <= 8 ? 0 : BAD, x.defender(40 + column, 5));
            due("column " + column, column <= 8 ? column : BAD, x.of(0, 0));
        }
        says("ROWS 1 .. 8");
        for (int row = -1; row <= 10; row++) {
            OnOneBreath x = new OnOneBreath();
            boolean is = row >= 1 && row <= 8;
            due("row " + row, is ? 0 : BAD, x.defender(10 * row + 4, 5));
            due("row " + row, is ? row : BAD, x.of(0, 1));
        }
        says("DEFENDERS 0 .. 6, as they come; FULL");
        OnOneBreath y = new OnOneBreath();
        for (int i = 0; i < 7; i++) {
            due(i, y.defender(10 + i, 9 - i));
        }
        due(FULL, y.defender(10, 0));
        for (int i = 0; i < 7; i++) {
            due(10 + i, 10 * y.of(i, 1) + y.of(i, 0));
            due(9 - i, y.of(i, 2));
            due(1, y.of(i, 3));
        }
        says("STRONG (0 .. 9)");
        for (int strong = -1; strong <= 10; strong++) {
            OnOneBreath x = new OnOneBreath();
            due("strong " + strong, strong >= 0 && strong <= 9 ? 0 : BAD, x.defender(44, strong));
        }
        says("all numbers of mend(), from the least to the greatest, and what each was");
        int[] low = {0, 1, 0, 0, 1, 0, 0, 0, 1, 0, 0, 0, 0, 0};
        int[] high = {8, 8, 9, 1, 60, 3, 40, 8, 8, 12, 12, 12, 12, 12};
        int[] first = {4, 4, 5, 1, 20, 1, 9, 4, 3, 3, 3, 1, 1, 2};
        for (int what = 0; what < 14; what++) {
            OnOneBreath x = half("", 44);
            int was = first[what];
            for (int v = low[what]; v <= high[what]; v++) {
                due("what " + what, was, x.mend(0, what, v));
                due("what " + what, v, x.of(0, what));
                was = v;
            }
            due("above, what " + what, BAD, x.mend(0, what, high[what] + 1));
            due("below, what " + what, BAD, x.mend(0, what, low[what] - 1));
            due("what " + what, high[what], x.of(0, what));
        }
        says("BREATH (1 .. 60 seconds; 20 at first)");
        OnOneBreath x = new OnOneBreath();
        row(x, 0);
        due(20, x.raid(0, 1));
        x.mend(0, 4, 1);
        due(1, x.raid(0, 1));
        x.mend(0, 4, 60);
        due(60, x.raid(0, 1));
        says("START (a COLUMN, 0 .. 8; 4 at first; he starts in ROW 0)");
        due(4, x.where(0, 0, -1));
        x.mend(0, 7, 0);
        due(0, x.where(0, 0, -1));
        x.mend(0, 7, 8);
        due(8, x.where(0, 0, -1));
    }

    /** As many moves deeper as told, then as many back. */
    private static void deepRow(OnOneBreath x, int shelf, int deep) {
        x.row(shelf, 0, 2 * deep);
        for (int i = 0; i < 2 * deep; i++) {
            x.put(shelf, i, i < deep ? 1 : 2);
        }
    }

    private static void baulk() {
        says("BAULK (1 .. 8; 3 at first: the ROW he must have been in, or one deeper)");
        for (int deep = 1; deep <= 8; deep++) {
            OnOneBreath x = new OnOneBreath();
            deepRow(x, 0, deep);
            due("at first, deep " + deep, deep < 3 ? 1 : 0, x.raid(0, 3));
            for (int baulk = 1; baulk <= 8; baulk++) {
                x.mend(0, 8, baulk);
                due("deep " + deep + ", BAULK " + baulk, deep < baulk ? 1 : 0, x.raid(0, 3));
            }
            due(HOME, x.raid(0, 0));
            due(deep, x.raid(0, 5));
        }
    }

    private static String times(String text, int n) {
        StringBuilder all = new StringBuilder();
        for (int i = 0; i < n; i++) {
            all.append(text);
        }
        return all.toString();
    }

    private static void tape() {
        says("THE TAPE (at most 120 bytes)");
        OnOneBreath x = new OnOneBreath();
        due(0, x.count(2));
        for (int i = 1; i <= 120; i++) {
            due(i, x.feed(i == 120 ? '1' : i % 2 == 0 ? '+' : 'd'));
        }
        due(FULL, x.feed('1'));
        due(120, x.count(2));
        due("the 120th goes on with the text no more", fault(119), x.law());
        due(0, x.count(2));
        due(1, x.feed('1'));
        says("A byte (0 .. 255)");
        for (int letter = -1; letter <= 256; letter++) {
            due("letter " + letter, letter >= 0 && letter <= 255 ? 1 : BAD, new OnOneBreath().feed(letter));
        }
        says("THE LAW is a TEXT by THE TAPE: one byte, and 120");
        due(3, done("3"));
        due("59 times d, and 11: 129 by 4", 1, done(times("d+", 59) + "11"));
        due("60 numbers, 59 signs, and a digit more", 1, parsed(times("1+", 59) + "11"));
    }

    private static void grammar() {
        says("LINES, one or more, parted by ;");
        due(fault(0), parsed(""));
        due(1, parsed("1"));
        due(1, parsed("1;1"));
        due(fault(0), parsed(";"));
        due(fault(0), parsed(";1"));
        due(fault(2), parsed("1;"));
        due(fault(2), parsed("1;;1"));
        due("sixty LINES, of one byte each", 1, parsed(times("1;", 59) + "1"));
        due("sixty ;, and no LINE behind the last", fault(120), parsed(times("1;", 60)));
        says("LINE: E, or E ? E");
        due(1, parsed("1?1"));
        due(fault(0), parsed("?1"));
        due(fault(2), parsed("1?"));
        due(fault(2), parsed("1??1"));
        due(fault(3), parsed("1?1?1"));
        due(fault(2), parsed("1?;1"));
        due(1, parsed("1?1;1?1"));
        due("not within ( )", fault(2), parsed("(1?1)"));
        due("no ; within ( )", fault(2), parsed("(1;1)"));
        says("E = A { | A }, A = B { & B }");
        for (String sign : new String[] {"|", "&", "+", "-", "*", "/", "%"}) {
            due(sign, 1, parsed("1" + sign + "1"));
            due(sign + " again and again", 1, parsed(times("1" + sign, 59) + "1"));
            due(sign + " too early", fault(2), parsed("1" + sign));
            due(sign + " without a first", sign.equals("-") ? 1 : fault(0), parsed(sign + "1"));
            due(sign + " twice", sign.equals("-") ? 1 : fault(2), parsed("1" + sign + sign + "1"));
        }
        says("B = S, or S < S, S = S, S > S");
        for (String sign : new String[] {"<", "=", ">"}) {
            due(sign, 1, parsed("1" + sign + "1"));
            due(sign + " too early", fault(2), parsed("1" + sign));
            due(sign + " without a first", fault(0), parsed(sign + "1"));
            for (String other : new String[] {"<", "=", ">"}) {
                due(sign + other + ", once alone", fault(3), parsed("1" + sign + "1" + other + "1"));
                due(sign + other + ", twice", fault(2), parsed("1" + sign + other + "1"));
                due(sign + other + ", by &", 1, parsed("1" + sign + "1&1" + other + "1"));
                due(sign + other + ", by |", 1, parsed("1" + sign + "1|1" + other + "1"));
                due(sign + other + ", within ( )", 1, parsed("(1" + sign + "1)" + other + "1"));
                due(sign + other + ", not by +", fault(5), parsed("1" + sign + "1+1" + other + "1"));
            }
        }
        says("which binds more tightly: | least, then &, then < = >, then + -, then * / %, then ! -");
        String[] ones = {"1|0&0", "1|1&0", "0&0|1", "0&1<2|1", "1|0=0", "3=3&2", "1+1=2", "2=1+1", "2<1+2", "3>1+1", "4-1>2",
            "2+3*4=14", "2*3+4=10", "7-5%3=5", "7-6/3=5", "8/2%3=1", "8%5*2=6", "8-4-3=1", "8-4+3=7", "16/4/2=2", "2*-3=-6",
            "-2*3=-6", "!0+1=2", "!1+1=1", "-1+2=1", "!0*3=3", "5-3<3", "1<2=1<2|1", "0|0|3", "1&2&3", "-1<0", "!0=1", "0=!1"};
        for (String text : ones) {
            due(text, text.equals("1<2=1<2|1") ? fault(3) : 1, done(text.equals("1<2=1<2|1") ? text : "(" + text + ")=1"));
        }
        String[] noughts = {"(1|0)&0", "0|0&1", "1&0|0", "(1+1)*0", "5=3+1", "1&1=0", "2*(3+4)=10", "0*1|0"};
        for (String text : noughts) {
            due(text, 1, done("(" + text + ")=0"));
        }
        says("E ? E: any E ahead of the ? and behind it");
        for (String sign : new String[] {"|", "&", "<", "=", ">", "+", "-", "*", "/", "%"}) {
            due(sign, 1, parsed("1" + sign + "1?1" + sign + "1;1" + sign + "1"));
        }
        due(1, done("0|1?0|1;3"));
        due(3, done("0&1?1;3"));
        due(2, done("d>5|r>4?1+1;3"));
        says("( E )");
        due(fault(1), parsed("()"));
        due(fault(2), parsed("(1"));
        due(fault(1), parsed("1)"));
        due(fault(3), parsed("(1))"));
        due(fault(1), parsed("("));
        due(fault(0), parsed(")"));
        due(fault(3), parsed("(1)1"));
        due(fault(1), parsed("1(1)"));
        says("! O, - O");
        due(fault(1), parsed("!"));
        due(fault(1), parsed("-"));
        due(fault(1), parsed("1!1"));
        due(fault(1), parsed("!+1"));
        due(1, parsed("1+!1"));
        due(1, parsed("1--1"));
        due(1, parsed("!-!-1"));
        says("the first byte with which no TEXT goes on, though more such come");
        due(fault(1), parsed("1x1x)"));
        due(fault(0), parsed("xxx"));
        says("-100 less its FAULT; THE TAPE is empty then");
        OnOneBreath x = new OnOneBreath();
        due(fault(2), law(x, "1+"));
        due(0, x.count(2));
        due(fault(0), x.law());
        due(0, x.count(2));
        due(1, law(x, "1+1"));
        due(0, x.count(2));
    }

    private static void numbersAndBytes() {
        says("a number (1 to 4 digits)");
        due(1, done("1"));
        due(2, done("10"));
        due(3, done("0003"));
        due("9999 is 3 by 4", 3, done("9999"));
        due(1, done("9999=9998+1"));
        due(fault(4), parsed("12345"));
        due(fault(4), parsed("00000"));
        due(fault(6), parsed("1+99990"));
        says("No blanks; a byte, and whether a TEXT goes on with it");
        for (int letter = 0; letter <= 255; letter++) {
            OnOneBreath x = new OnOneBreath();
            x.feed(letter);
            boolean whole = letter >= '0' && letter <= '9' || "drbsnc".indexOf(letter) >= 0;
            boolean opens = letter == '(' || letter == '!' || letter == '-';
            due("first " + letter, whole ? 1 : opens ? fault(1) : fault(0), x.law());
            x.feed('n');
            x.feed(letter);
            due("second " + letter, "|&<=>+-*/%;?".indexOf(letter) >= 0 ? fault(2) : fault(1), x.law());
            x.feed('7');
            x.feed(letter);
            boolean digit = letter >= '0' && letter <= '9';
            due("behind a digit " + letter, digit ? 1 : "|&<=>+-*/%;?".indexOf(letter) >= 0 ? fault(2) : fault(1), x.law());
        }
    }

    private static void openAtOnce() {
        says("At most 6 of ( ! - ahead of an O are open at once");
        String[] six = {"((((((", "!!!!!!", "------", "(!-(!-", "-(-(-(", "!(!(!(", "(-!(-!"};
        for (String open : six) {
            String close = open.replace("!", "").replace("-", "").replace("(", ")");
            due(open, 1, parsed(open + "1" + close));
            due(open + ", too early", fault(6), parsed(open));
            due(open + " five", 1, parsed(open.substring(1) + "1" + (open.charAt(0) == '(' ? close.substring(1) : close)));
            for (String seventh : new String[] {"(", "!", "-"}) {
                due(open + seventh, fault(6), parsed(open + seventh + "1" + (seventh.equals("(") ? ")" : "") + close));
                due(open + seventh + ", and no more", fault(6), parsed(open + seventh));
            }
        }
        due("a - between two is not ahead of an O", 1, parsed("((((((1-1-1))))))"));
        due("a - ahead of an O behind it is one", fault(8), parsed("((((((1--1))))))"));
        due("five, and one behind another", 1, parsed("(((((!1+(1)--1*!0)))))"));
        due("what is closed is open no more", 1, parsed("((((((1))))))+((((((1))))))|!!!!!!1;------1?!!!!!!1"));
        due("eight one behind another", 1, parsed("!1+!1+!1+!1+-1+-1+(1)+(1)"));
        due("closed, then the seventh", fault(20), parsed("((((((1))))))+((((((!1))))))"));
        due("a ) gives one free", 1, parsed("(((((" + "(1)+!1+-1" + ")))))"));
        due("an O behind ! gives it free", 1, parsed("!!!!!1+!!!!!!1"));
        due("it is worked out", 3, done("-(-(-(3)))"));
        due("it is worked out", 1, done("!!!!!!3"));
    }

    private static void ints() {
        String two31 = "2048*1024*1024";
        says("Ints that wrap");
        due(1, done(two31 + "<0"));
        due(1, done(two31 + "-1>0"));
        due(1, done(two31 + "+" + two31 + "=0"));
        due(1, done(two31 + "*2=0"));
        due(1, done("-(" + two31 + ")<0"));
        due(1, done("0-" + two31 + "=" + two31));
        due("the greatest and 1", 1, done("2047*1024*1024+1023*1024+1023+1=" + two31));
        due("65536 by itself", 1, done("256*256*256*256=0"));
        due("46341 by itself is below 0", 1, done("(9999*4+6345)*(9999*4+6345)<0"));
        due("46340 by itself is not", 1, done("(9999*4+6344)*(9999*4+6344)>0"));
        says("/ and % toward 0");
        due(1, done("7/2=3"));
        due(1, done("-7/2=-3"));
        due(1, done("7/-2=-3"));
        due(1, done("-7/-2=3"));
        due(1, done("7%3=1"));
        due(1, done("-7%3=-1"));
        due(1, done("7%-3=1"));
        due(1, done("-7%-3=-1"));
        due("the least by -1", 1, done(two31 + "/-1=" + two31));
        due("the least by -1", 1, done(two31 + "%-1=0"));
        says("by 0 they give 0");
        due(1, done("7/0=0"));
        due(1, done("-7/0=0"));
        due(1, done("0/0=0"));
        due(1, done("7%0=0"));
        due(1, done("-7%0=0"));
        due(1, done("0%0=0"));
        due(1, done("9/(d-2)+1"));
        says("| & < = > ! give 1, 0");
        String[] ones = {"5|0", "0|-5", "3|3", "5&7", "-1&1", "2<3", "-3<-2", "3=3", "3>2", "!0"};
        String[] noughts = {"0|0", "5&0", "0&5", "0&0", "3<3", "3<2", "2=3", "3>3", "2>3", "!1", "!5", "!-1"};
        for (String text : ones) {
            due(text, 1, done("(" + text + ")=1"));
            due(text, 3, done("(" + text + ")*3"));
        }
        for (String text : noughts) {
            due(text, 1, done("(" + text + ")=0"));
            due(text, 2, done("(" + text + ")*3+2"));
        }
        says("the rest by 4 of it without its sign");
        for (int v = 0; v <= 9; v++) {
            due(v % 4, done("" + v));
            due(v % 4, done("-" + v));
        }
        due("the least of all", 0, done(two31));
        due("one more", 3, done(two31 + "+1"));
        due("the greatest", 3, done(two31 + "-1"));
        due("one less", 2, done(two31 + "-2"));
    }

    private static void lines() {
        says("The first LINE without a first E, or whose first E is not 0, counts; none: 0");
        due(0, done("0?3"));
        due(0, done("0?3;0?2;0?1"));
        due(3, done("1?3"));
        due(3, done("-1?3;2"));
        due("the least int is not 0", 3, done("2048*1024*1024?3;2"));
        due(2, done("0?3;2"));
        due(2, done("0?3;2;1"));
        due(2, done("2;3"));
        due(2, done("2;1?3"));
        due(1, done("0?3;5?1;2"));
        due("what counts may be 0", 0, done("1?0;3"));
        due("the thirtieth", 3, done(times("0?1;", 29) + "3"));
        due("the first of sixty", 2, done("2;" + times("1;", 58) + "3"));
        says("THE TAPE becomes THE LAW; a TEXT with a FAULT does not");
        OnOneBreath x = half("", 55);
        due(1, law(x, "3"));
        due(3, x.does(0, 0, 0));
        due(fault(3), law(x, "2;1x"));
        due(3, x.does(0, 0, 0));
        due(fault(0), x.law());
        due(3, x.does(0, 0, 0));
        due(fault(1), law(x, "1x"));
        due(3, x.does(0, 0, 0));
        due(1, law(x, "2"));
        due(2, x.does(0, 0, 0));
        due(1, law(x, "0"));
        due(0, x.does(0, 55, 0));
        OnOneBreath y = half("", 55);
        due(fault(1), law(y, "3x"));
        due("none so far: 1, far away from ROW 4 on", 1, y.does(0, 40, 0));
    }

    private static void names() {
        says("d how far the RAIDER is (COLUMNS and ROWS apart together)");
        due("16 apart, from 0 to 88", 1, one("d=16", 88, 0));
        due(1, one("d=16", 80, 8));
        due("on one cell", 1, one("d=0", 44, 44));
        due(1, one("d=1", 44, 45));
        due(1, one("d=1", 44, 34));
        due("aslant", 1, one("d=2", 44, 55));
        says("r his ROW");
        for (int r = 0; r <= 8; r++) {
            due("row " + r, 1, one("r=" + r, 44, 10 * r));
        }
        says("b how many seconds have passed ahead of this one");
        OnOneBreath x = half("b=0?2", 14);
        x.mend(0, 4, 60);
        row(x, 0);
        due("the first second has 0", 24, x.where(0, 1, 0));
        due("and no other one", 24, x.where(0, 60, 0));
        law(x, "b=59?2");
        due("the sixtieth has 59", 14, x.where(0, 59, 0));
        due("the sixtieth has 59", 24, x.where(0, 60, 0));
        law(x, "b>59?2");
        due("none has more", 14, x.where(0, 60, 0));
        says("behind b (0 .. 99) seconds");
        law(x, "b=0");
        due(1, x.does(0, 0, 0));
        due(0, x.does(0, 0, 1));
        law(x, "b=99");
        due(1, x.does(0, 0, 99));
        due(0, x.does(0, 0, 98));
        says("s STRONG");
        for (int s = 0; s <= 9; s++) {
            x.mend(0, 2, s);
            law(x, "s=" + s);
            due("s " + s, 1, x.does(0, 0, 0));
        }
        says("n how many DEFENDERS are IN");
        OnOneBreath y = half("n", 55);
        due(1, y.does(0, 0, 0));
        for (int i = 2; i <= 7; i++) {
            y.defender(10, 0);
            due("n " + i, i % 4, y.does(0, 0, 0));
        }
        y.mend(6, 3, 0);
        due("one is not IN", 2, y.does(0, 0, 0));
        says("c how many of those IN are one COLUMN or ROW apart from it (together 1)");
        OnOneBreath z = half("c", 55);
        due("itself is not", 0, z.does(0, 0, 0));
        z.defender(55, 0);
        due("on its cell is not", 0, z.does(0, 0, 0));
        z.defender(66, 0);
        due("aslant is not", 0, z.does(0, 0, 0));
        z.defender(57, 0);
        due("two apart is not", 0, z.does(0, 0, 0));
        z.defender(54, 0);
        due("a COLUMN less", 1, z.does(0, 0, 0));
        z.defender(65, 0);
        due("a ROW more", 2, z.does(0, 0, 0));
        z.mend(5, 3, 0);
        due("not IN is not", 1, z.does(0, 0, 0));
        due("of the one in 54: both in 55", 2, z.does(4, 0, 0));
        OnOneBreath all = half("c=6?3", 55, 54, 54, 56, 45, 65, 65);
        due("six of them", 3, all.does(0, 0, 0));
        says("as all stand now: the RAIDER is none of them");
        due(0, half("c", 55).does(0, 45, 0));
    }

    private static int one(String text, int cell, int raider) {
        return half(text, cell).does(0, raider, 0);
    }

    private static void withoutText() {
        says("Without a text: 3 if r is 4 or more and d is 1 or less; else 1 if r is 4 or more; else 2 if d is 2 or less; else 0");
        int[][] of55 = {{55, 3}, {54, 3}, {56, 3}, {45, 3}, {65, 3}, {44, 1}, {53, 1}, {57, 1}, {75, 1}, {40, 1}, {80, 1}, {88, 1},
            {35, 2}, {36, 0}, {34, 0}, {25, 0}, {5, 0}, {0, 0}};
        OnOneBreath x = half("", 55);
        for (int[] due : of55) {
            due("55, the RAIDER in " + due[0], due[1], x.does(0, due[0], 0));
        }
        int[][] of25 = {{25, 2}, {24, 2}, {15, 2}, {35, 2}, {23, 2}, {5, 2}, {16, 2}, {34, 2}, {22, 0}, {37, 0}, {13, 0}, {4, 0}, {6, 0},
            {45, 1}, {44, 1}};
        x.mend(0, 1, 2);
        for (int[] due : of25) {
            due("25, the RAIDER in " + due[0], due[1], x.does(0, due[0], 99));
        }
        x.mend(0, 1, 3);
        due("35, the RAIDER in 45", 3, x.does(0, 45, 0));
    }

    private static void raiderMoves() {
        OnOneBreath x = new OnOneBreath();
        says("the RAIDER moves (0 stays, 1 a ROW deeper, 2 a ROW back, 3 a COLUMN less, 4 a COLUMN more)");
        row(x, 0, 1, 1, 0, 4, 2, 3);
        int[] way = {4, 14, 24, 24, 25, 15, 14};
        for (int n = 0; n < way.length; n++) {
            due("behind " + n, way[n], x.where(0, n, -1));
        }
        says("beyond the HALF, or beyond ROW 0: he stays");
        x.mend(0, 7, 0);
        row(x, 0, 3, 1, 3);
        due("COLUMN 0, in ROW 0", 0, x.where(0, 1, -1));
        due("COLUMN 0", 10, x.where(0, 3, -1));
        x.mend(0, 7, 1);
        due("COLUMN 1", 0, x.where(0, 1, -1));
        x.mend(0, 7, 8);
        row(x, 0, 4, 1, 4);
        due("COLUMN 8, in ROW 0", 8, x.where(0, 1, -1));
        due("COLUMN 8", 18, x.where(0, 3, -1));
        x.mend(0, 7, 7);
        due("COLUMN 7", 8, x.where(0, 1, -1));
        row(x, 0, 1, 1, 1, 1, 1, 1, 1, 1, 1);
        due("ROW 7", 77, x.where(0, 7, -1));
        due("ROW 8", 87, x.where(0, 8, -1));
        due("ROW 8 again", 87, x.where(0, 9, -1));
        row(x, 0, 2, 1);
        due("ROW 0", 7, x.where(0, 1, -1));
        due("it was a second", 17, x.where(0, 2, -1));
        says("If he is in ROW 0 then and was beyond it: HOME, all ends");
        row(x, 0, 2, 2, 0, 3);
        due("he was never beyond it", LOST, x.raid(0, 0));
        due(20, x.raid(0, 1));
        row(x, 0, 1, 2, 1, 1);
        due(HOME, x.raid(0, 0));
        due(2, x.raid(0, 1));
        due(1, x.raid(0, 5));
        due(7, x.where(0, 60, -1));
        row(x, 0, 2, 1, 2);
        due(HOME, x.raid(0, 0));
        due(3, x.raid(0, 1));
    }

    private static void touching() {
        says("All DEFENDERS IN no farther than REACH are TOUCHED (REACH 0 .. 3; 1 at first)");
        OnOneBreath x = half("0", 14, 24, 34, 44, 54, 11, 10);
        row(x, 0, 1);
        due("at first", 0b0000011, x.raid(0, 4));
        int[] bits = {0b0000001, 0b0000011, 0b0000111, 0b0101111};
        for (int reach = 0; reach <= 3; reach++) {
            x.mend(0, 5, reach);
            due("REACH " + reach, bits[reach], x.raid(0, 4));
        }
        x.mend(2, 3, 0);
        due("one not IN", 0b0101011, x.raid(0, 4));
        says("(while he is in ROW 1 or deeper)");
        OnOneBreath y = half("0", 14, 24);
        y.mend(0, 5, 3);
        row(y, 0);
        due("in ROW 0", 0, y.raid(0, 4));
        row(y, 0, 1);
        due("in ROW 1", 3, y.raid(0, 4));
        OnOneBreath deep = half("0", 88);
        row(deep, 0, 1, 1, 1, 1, 1, 1, 1, 1, 4, 4, 4, 4);
        due("in ROW 8", 1, deep.raid(0, 4));
        says("TOUCHED ahead of their acts, and once alone");
        OnOneBreath z = half("2", 24);
        row(z, 0, 1, 2);
        due("it would be away", 1, z.raid(0, 4));
        OnOneBreath once = half("0", 14);
        row(once, 0, 1, 0, 0, 2);
        due("three seconds, one point", 1, once.raid(0, 2));
    }

    /** Where one from a cell is behind one second of an act, the RAIDER then in 44. */
    private static int acted(int act, int cell) {
        OnOneBreath x = half("b=3?" + act, cell);
        row(x, 0, 1, 1, 1, 1);
        due("it stood still until then", cell, x.where(0, 3, 0));
        return x.where(0, 4, 0);
    }

    private static void acting() {
        says("one that comes is a COLUMN nearer to him, if theirs are unlike, else a ROW nearer");
        int[][] comes = {{40, 41}, {43, 43}, {45, 45}, {48, 47}, {10, 11}, {88, 87}, {53, 54}, {35, 34}, {14, 24}, {84, 74}, {24, 34},
            {64, 54}, {42, 43}, {46, 45}};
        for (int[] c : comes) {
            due("from " + c[0], c[1], acted(1, c[0]));
        }
        says("onto his own cell neither way: it stays then");
        for (int cell : new int[] {43, 45, 34, 54, 44}) {
            due("from " + cell, cell, acted(1, cell));
        }
        says("not into ROW 0");
        OnOneBreath x = half("1", 34, 13, 16);
        row(x, 0);
        due(24, x.where(0, 1, 0));
        due(14, x.where(0, 2, 0));
        due("ROW 1 stays", 14, x.where(0, 3, 0));
        due("by COLUMNS first", 14, x.where(0, 1, 1));
        due("then ROW 1 stays", 14, x.where(0, 20, 1));
        due("two COLUMNS", 15, x.where(0, 1, 2));
        due("two COLUMNS", 14, x.where(0, 20, 2));
        says("one that goes away is a ROW deeper (8 at most)");
        for (int row = 1; row <= 8; row++) {
            due("from ROW " + row, 10 * Math.min(8, row + 1) + 2, acted(2, 10 * row + 2));
        }
        due("from his own cell", 54, acted(2, 44));
        says("0 stays, 3 holds: neither moves");
        for (int cell : new int[] {10, 44, 45, 88}) {
            due("stays in " + cell, cell, acted(0, cell));
            due("holds in " + cell, cell, acted(3, cell));
        }
        says("they act by numbers, each by THE LAW as all stand then");
        OnOneBreath y = half("c=1?2", 50, 60);
        row(y, 0);
        due("0 goes away from beside 1, onto its cell", 60, y.where(0, 1, 0));
        due("1 has none one apart then", 60, y.where(0, 1, 1));
        OnOneBreath z = half("c=0?2", 50, 70);
        row(z, 0);
        due("0 comes beside 1", 60, z.where(0, 1, 0));
        due("1 has one beside it then", 70, z.where(0, 1, 1));
        says("(DEFENDERS may share a cell.)");
        due(0, half("c=1?2", 60, 60).does(1, 0, 0));
        says("one not IN does not act");
        z.mend(0, 3, 0);
        due(50, z.where(0, 20, 0));
    }

    private static int ends(OnOneBreath x, int might) {
        x.mend(0, 6, might);
        return x.raid(0, 0);
    }

    private static void holding() {
        says("one that holds, HOLDS, if it is no farther than 1 (while he is in ROW 1 or deeper)");
        int[][] cells = {{14, 1}, {13, 1}, {15, 1}, {24, 1}, {12, 0}, {16, 0}, {34, 0}, {23, 0}, {25, 0}};
        for (int[] c : cells) {
            OnOneBreath x = half("3", c[0]);
            x.mend(0, 4, 1);
            row(x, 0, 1);
            due("in " + c[0], c[1], x.raid(0, 6));
            due("in " + c[0] + ", by MIGHT 4", c[1] == 1 ? CAUGHT : LOST, ends(x, 4));
        }
        OnOneBreath beyond = half("3", 14);
        row(beyond, 0);
        due("he is in ROW 0", 0, beyond.raid(0, 6));
        due("he is in ROW 0", LOST, ends(beyond, 0));
        says("If STRONG of all who HOLD is more than MIGHT then: CAUGHT (MIGHT 0 .. 40; 9 at first)");
        OnOneBreath x = new OnOneBreath();
        law(x, "3");
        x.defender(14, 9);
        row(x, 0, 1, 2);
        due("9 at first", HOME, x.raid(0, 0));
        x.defender(24, 1);
        due("10 over 9 at first", CAUGHT, x.raid(0, 0));
        due("10 by 10", HOME, ends(x, 10));
        due("10 by 9", CAUGHT, ends(x, 9));
        OnOneBreath weak = new OnOneBreath();
        law(weak, "3");
        weak.defender(14, 0);
        row(weak, 0, 1, 2);
        due("0 by 0", HOME, ends(weak, 0));
        weak.mend(0, 2, 1);
        due("1 by 0", CAUGHT, ends(weak, 0));
        OnOneBreath strong = new OnOneBreath();
        law(strong, "3");
        for (int i = 0; i < 4; i++) {
            strong.defender(14, 9);
        }
        strong.defender(13, 4);
        row(strong, 0, 1, 2);
        due("40 by 40", HOME, ends(strong, 40));
        strong.mend(4, 2, 5);
        due("41 by 40", CAUGHT, ends(strong, 40));
        due("CAUGHT, who HOLDS", 0b11111, strong.raid(0, 6));
        strong.mend(4, 3, 0);
        due("one not IN does not", HOME, ends(strong, 40));
        says("then: of that second alone, and all ends");
        OnOneBreath y = half("b=1&s=5?3;b=2&s=5?3", 14, 15);
        y.mend(0, 6, 9);
        row(y, 0, 1, 0, 0, 2);
        due(CAUGHT, y.raid(0, 0));
        due("in the second second", 2, y.raid(0, 1));
        y.mend(1, 2, 4);
        due("5 in each of two", HOME, y.raid(0, 0));
        due(4, y.raid(0, 1));
    }

    private static void raids() {
        OnOneBreath x = new OnOneBreath();
        says("A RAID: another byte: he stays");
        for (int other : new int[] {5, 6, 7, 100, 127, -1, -2, -3, -4, -128}) {
            row(x, 0, 1, other, 2);
            due("byte " + other, 14, x.where(0, 2, -1));
            due("byte " + other, HOME, x.raid(0, 0));
            due("byte " + other, 3, x.raid(0, 1));
        }
        says("what is put in keeps its lowest bits: 257 is 1, 258 is 2, 261 is another byte");
        row(x, 0, 257, 261, 258);
        due(3, x.raid(0, 1));
        says("what lacks: he stays");
        row(x, 0);
        due(LOST, x.raid(0, 0));
        due(20, x.raid(0, 1));
        row(x, 0, 1);
        due(14, x.where(0, 20, -1));
        due(LOST, x.raid(0, 0));
        says("a ROW of bytes: 60 elements, 60 seconds");
        x.mend(0, 4, 60);
        x.row(0, 0, 60);
        x.put(0, 58, 1);
        x.put(0, 59, 2);
        due(HOME, x.raid(0, 0));
        due(60, x.raid(0, 1));
        due(14, x.where(0, 59, -1));
        says("BREATH gone without HOME or CAUGHT: LOST");
        x.mend(0, 4, 59);
        due(LOST, x.raid(0, 0));
        due(59, x.raid(0, 1));
        row(x, 0, 1, 1, 2, 2);
        x.mend(0, 4, 4);
        due("HOME with the last of it", HOME, x.raid(0, 0));
        x.mend(0, 4, 3);
        due("one second less", LOST, x.raid(0, 0));
        due(3, x.raid(0, 1));
        x.mend(0, 4, 1);
        due("one second", LOST, x.raid(0, 0));
        due(1, x.raid(0, 1));
        OnOneBreath y = half("b=1?3", 14);
        y.mend(0, 6, 0);
        y.mend(0, 4, 2);
        row(y, 0, 1);
        due("CAUGHT with the last of it", CAUGHT, y.raid(0, 0));
        y.mend(0, 4, 1);
        due("one second less", LOST, y.raid(0, 0));
    }

    private static void points() {
        says("HOME: one for each TOUCHED");
        OnOneBreath x = half("0");
        row(x, 0, 1, 2);
        for (int i = 0; i <= 7; i++) {
            due(i + " TOUCHED", i, x.raid(0, 2));
            due(i + " TOUCHED", (1 << i) - 1, x.raid(0, 4));
            due("none TOUCHED and he was never as deep as BAULK", i == 0 ? 1 : 0, x.raid(0, 3));
            x.defender(14, 1);
        }
        says("none TOUCHED and he was never as deep as BAULK: one for THEM");
        OnOneBreath y = half("0", 80);
        deepRow(y, 0, 2);
        due("neither", 1, y.raid(0, 3));
        due(0, y.raid(0, 2));
        deepRow(y, 0, 3);
        due("deep, none TOUCHED", 0, y.raid(0, 3));
        y.defender(14, 5);
        due("deep and TOUCHED", 0, y.raid(0, 3));
        deepRow(y, 0, 2);
        due("TOUCHED, not deep", 0, y.raid(0, 3));
        due(1, y.raid(0, 2));
        says("LOST: one for THEM, two if 3 or fewer are IN");
        OnOneBreath lost = half("0");
        row(lost, 0, 1);
        for (int i = 0; i <= 7; i++) {
            due(i + " IN", i <= 3 ? 2 : 1, lost.raid(0, 3));
            due("points", 0, lost.raid(0, 2));
            lost.defender(14, 1);
        }
        for (int i = 7; i >= 1; i--) {
            lost.mend(i - 1, 3, 0);
            due(i - 1 + " still IN", i - 1 <= 3 ? 2 : 1, lost.raid(0, 3));
        }
        says("CAUGHT: one for THEM, two if 3 or fewer are IN");
        OnOneBreath caught = half("3", 14);
        caught.mend(0, 6, 0);
        row(caught, 0, 1, 2);
        for (int i = 1; i <= 7; i++) {
            due(CAUGHT, caught.raid(0, 0));
            due(i + " IN", i <= 3 ? 2 : 1, caught.raid(0, 3));
            due("points", 0, caught.raid(0, 2));
            due("TOUCHED", (1 << i) - 1, caught.raid(0, 4));
            caught.defender(14, 1);
        }
    }

    // ---- 2

    private static void inThought() {
        says("how it ends (1 HOME, 2 CAUGHT, 3 LOST); seconds; points; for THEM; TOUCHED; how deep; who HOLDS as it ends");
        OnOneBreath x = half("r=1?0;3", 14, 24, 80);
        row(x, 0, 1, 1, 2, 2);
        int[] caught = {CAUGHT, 2, 0, 2, 3, 2, 3};
        int[] home = {HOME, 4, 2, 0, 3, 2, 0};
        int[] lost = {LOST, 2, 0, 2, 3, 2, 3};
        for (int what = 0; what < 7; what++) {
            due("CAUGHT, what " + what, caught[what], x.raid(0, what));
        }
        x.mend(0, 6, 10);
        for (int what = 0; what < 7; what++) {
            due("HOME, what " + what, home[what], x.raid(0, what));
        }
        x.mend(0, 4, 2);
        for (int what = 0; what < 7; what++) {
            due("LOST, what " + what, lost[what], x.raid(0, what));
        }
        says("as it ends: who held ahead of that does not count");
        x.mend(0, 4, 3);
        due(0, x.raid(0, 6));
        says("how deep: where he was never deeper than ROW 0, and ROW 8");
        row(x, 1, 0, 2);
        due(0, x.raid(1, 5));
        OnOneBreath y = new OnOneBreath();
        row(y, 0, 1, 1, 1, 1, 1, 1, 1, 1, 1, 1, 2);
        due(8, y.raid(0, 5));
        says("IN THOUGHT: nothing stands otherwise behind it");
        due(14, 10 * x.of(0, 1) + x.of(0, 0));
        due(3, x.count(1));
        due(0, x.led(0));
    }

    private static void where() {
        says("Where one is (who -1: the RAIDER) behind n seconds (0 .. 60)");
        OnOneBreath x = half("2", 14, 58, 80);
        x.mend(1, 3, 0);
        x.mend(0, 4, 60);
        row(x, 0);
        due("n 0", 4, x.where(0, 0, -1));
        due("n 0", 14, x.where(0, 0, 0));
        due("n 1", 24, x.where(0, 1, 0));
        due("n 60", 4, x.where(0, 60, -1));
        due("n 60", 84, x.where(0, 60, 0));
        due("one not IN is where it stood", 58, x.where(0, 60, 1));
        due("the last one", 80, x.where(0, 60, 2));
        due("one more", BAD, x.where(0, 60, 3));
        says("as it stood, if it ended before");
        row(x, 0, 4, 1, 2, 1, 1);
        due("behind HOME", 5, x.where(0, 3, -1));
        due("behind HOME", 5, x.where(0, 4, -1));
        due("they do not act as he comes HOME", 34, x.where(0, 3, 0));
        due("nor behind it", 34, x.where(0, 60, 0));
        x.mend(0, 4, 2);
        due("behind LOST", 15, x.where(0, 2, -1));
        due("behind LOST", 15, x.where(0, 60, -1));
        due("behind LOST", 34, x.where(0, 60, 0));
        OnOneBreath y = half("b=1?3;2", 14, 24);
        y.mend(0, 6, 4);
        row(y, 0, 1, 1, 1, 1);
        due("CAUGHT in the second second", 2, y.raid(0, 1));
        due("behind CAUGHT", 24, y.where(0, 60, -1));
        due("behind CAUGHT", 34, y.where(0, 60, 1));
    }

    private static int firstMoves(OnOneBreath x, int n) {
        int all = 0;
        for (int k = 0; k < n; k++) {
            all = 10 * all + x.best(n, k);
        }
        return all;
    }

    private static void best() {
        says("BEST: of all moves of n seconds (1 .. 5), then back by moves 2: that; the k-th move");
        OnOneBreath x = new OnOneBreath();
        // Nobody is there: HOME from ROW 1 or 2 is one for THEM, from ROW 3 nothing; to stay is LOST, two for THEM.
        int[] most = {-1, -1, 0, 0, 0};
        int[] moves = {1, 1, 111, 111, 111};
        for (int n = 1; n <= 5; n++) {
            due("nobody, n " + n, most[n - 1], x.best(n, -1));
            due("nobody, n " + n, moves[n - 1], firstMoves(x, n));
            due("nobody, n " + n, NOT, x.best(n, n));
        }
        says("then back by moves 2 until HOME, or BREATH is gone");
        x.mend(0, 4, 5);
        due("ROW 3 and back are six seconds", -1, x.best(3, -1));
        x.mend(0, 4, 6);
        due("six", 0, x.best(3, -1));
        due("six", 111, firstMoves(x, 3));
        due("no time to stay: back by the fourth", 1112, firstMoves(x, 4));
        x.mend(0, 4, 7);
        due("seven", 111, firstMoves(x, 4));
        x.mend(0, 4, 1);
        for (int n = 1; n <= 5; n++) {
            due("BREATH 1: LOST, two for THEM, n " + n, -2, x.best(n, -1));
            due("BREATH 1: the first of like ones, n " + n, 0, firstMoves(x, n));
        }
        x.mend(0, 4, 2);
        due("BREATH 2: out and back", -1, x.best(1, -1));
        due("BREATH 2: out and back, then nothing", 12000, firstMoves(x, 5));
        says("most points less those for THEM (of like ones the first by numbers)");
        OnOneBreath y = half("0", 13, 15, 24);
        due(3, y.best(1, -1));
        due("1", 1, y.best(1, 0));
        due("0, 1", 1, firstMoves(y, 2));
        due("0, 0, 0, 0, 1", 1, firstMoves(y, 5));
        y.mend(0, 5, 0);
        due("REACH 0, two seconds: 24", 1, y.best(2, -1));
        due("REACH 0, two seconds: 1, 1 is the first", 11, firstMoves(y, 2));
        due("REACH 0, four seconds: 24, and 13 on the way back", 2, y.best(4, -1));
        due("REACH 0, four seconds", 113, firstMoves(y, 4));
        due("REACH 0, five seconds: 13, 24, and 15 on the way back", 3, y.best(5, -1));
        due("REACH 0, five seconds", 13144, firstMoves(y, 5));
        says("CAUGHT and LOST are weighed too");
        OnOneBreath z = half("3", 14, 13, 15);
        z.mend(0, 6, 4);
        z.mend(0, 4, 2);
        due("all ways out are held", -2, z.best(1, -1));
        due("so he stays", 0, z.best(1, 0));
        z.defender(80, 1);
        due("four are IN: one for THEM", -1, z.best(1, -1));
        says("BEST is of what stands now");
        OnOneBreath ruled = half("3", 14);
        ruled.mend(0, 6, 0);
        due("all hold", -2, ruled.best(1, -1));
        law(ruled, "0");
        due("none holds", 1, ruled.best(1, -1));
        due("none holds", 1, ruled.touch(0, -1));
        law(ruled, "3");
        due("all hold again", NOT, ruled.touch(0, -1));
        law(ruled, "x");
        due("a FAULT leaves it", NOT, ruled.touch(0, -1));
        z.mend(0, 6, 40);
        due("MIGHT", 3, z.best(1, -1));
        z.undo();
        due("UNDONE", -1, z.best(1, -1));
        z.redo();
        due("DONE AGAIN", 3, z.best(1, -1));
        law(z, "0");
        z.mend(0, 6, 0);
        due("THE LAW", 3, z.best(1, -1));
        z.image();
        row(z, 0, 1, 2);
        z.go(0);
        due("IN DEED", -1, z.best(1, -1));
        z.allIn();
        due("ALL IN", 3, z.best(1, -1));
        z.go(0);
        z.back();
        due("laid back", 3, z.best(1, -1));
        z.defender(14, 0);
        due("one more", 4, z.best(1, -1));
        row(z, 0, 4, 3, 0);
        z.defenders(0, 0, 1);
        due("one from a ROW, out of REACH", 4, z.best(1, -1));
        z.mend(5, 1, 1);
        due("mended", 5, z.best(1, -1));
    }

    private static int touchMoves(OnOneBreath x, int d) {
        int all = 0;
        for (int k = 0; k < Math.max(0, x.touch(d, -1)); k++) {
            all = 10 * all + x.touch(d, k);
        }
        return all;
    }

    private static void touch() {
        says("TOUCH: the fewest seconds (1 .. 5) of moves by which a told DEFENDER is TOUCHED and he comes HOME");
        OnOneBreath x = half("0", 24, 34, 44, 54, 64, 74, 14);
        int[] fewest = {1, 2, 3, 4, 5, NOT, 1};
        int[] moves = {1, 11, 111, 1111, 11111, 0, 1};
        for (int d = 0; d < 7; d++) {
            due("DEFENDER " + d, fewest[d], x.touch(d, -1));
            due("DEFENDER " + d, moves[d], touchMoves(x, d));
            due("there are not as many, DEFENDER " + d, NOT, x.touch(d, Math.max(0, fewest[d])));
        }
        says("of like ones the first");
        OnOneBreath y = half("0", 25);
        y.mend(0, 5, 0);
        due(3, y.touch(0, -1));
        due("1, 1, 4 ahead of 1, 4, 1 and 4, 1, 1", 114, touchMoves(y, 0));
        says("then back likewise: what is TOUCHED on the way back counts");
        y.mend(0, 1, 1);
        due("15: by 1, 4", 14, touchMoves(y, 0));
        // 13 comes into COLUMN 4 as he is in 24, and is TOUCHED from 14; 1, 3 would touch it too, but later by numbers.
        OnOneBreath late = half("b=1?1", 13);
        late.mend(0, 5, 0);
        due("two seconds", 11, touchMoves(late, 0));
        says("and he comes HOME: in his BREATH, and not CAUGHT");
        OnOneBreath z = half("0", 64);
        z.mend(0, 4, 10);
        due("ten seconds are enough", 5, z.touch(0, -1));
        z.mend(0, 4, 9);
        due("nine are not", NOT, z.touch(0, -1));
        due("nine are not", NOT, z.touch(0, 0));
        OnOneBreath held = half("3", 14);
        held.mend(0, 6, 5);
        due(1, held.touch(0, -1));
        held.mend(0, 6, 4);
        due("whom he touches holds him", NOT, held.touch(0, -1));
        held.mend(0, 5, 2);
        due("from 12 it is too far", 331, touchMoves(held, 0));
        says("one IN alone");
        held.mend(0, 3, 0);
        due(BAD, held.touch(0, -1));
        held.allIn();
        due(3, held.touch(0, -1));
    }

    private static void needs() {
        says("NEEDS: the least BREATH (1 .. 60) by which a RAID ends HOME; NOT");
        OnOneBreath x = new OnOneBreath();
        row(x, 0, 1, 2);
        due("two, the least that can be", 2, x.needs(0));
        x.mend(0, 4, 1);
        due("whatever BREATH is", 2, x.needs(0));
        x.row(0, 0, 60);
        x.put(0, 0, 1);
        x.put(0, 59, 2);
        due("sixty", 60, x.needs(0));
        x.put(0, 59, 0);
        due("never", NOT, x.needs(0));
        row(x, 0);
        due("a ROW of no elements", NOT, x.needs(0));
        row(x, 0, 2, 2);
        due("he never went", NOT, x.needs(0));
        OnOneBreath y = half("b>1?3", 14);
        y.mend(0, 6, 4);
        row(y, 0, 1, 0, 2);
        due("HOME ahead of the hold: nobody acts in that second", 3, y.needs(0));
        row(y, 0, 1, 0, 0, 2);
        due("CAUGHT", NOT, y.needs(0));
    }

    private static void spared() {
        says("SPARED: which DEFENDERS (bits), if that one were not IN, a RAID that is CAUGHT would not be");
        OnOneBreath x = half("3", 80, 81, 82, 83, 85, 86, 14);
        x.mend(0, 6, 4);
        row(x, 0, 1, 2);
        due("the last one", 0b1000000, x.spared(0));
        x.mend(0, 1, 1);
        x.mend(0, 0, 3);
        x.mend(0, 6, 9);
        due("the first and the last", 0b1000001, x.spared(0));
        x.mend(0, 6, 4);
        due("either is enough", 0, x.spared(0));
        says("(not CAUGHT at all: 0)");
        x.mend(0, 6, 10);
        due("HOME", 0, x.spared(0));
        row(x, 0);
        due("LOST", 0, x.spared(0));
        due("nobody", 0, spareNobody());
        says("LOST is not CAUGHT");
        row(x, 0, 1);
        x.mend(0, 6, 9);
        due(0b1000001, x.spared(0));
        due("all are IN as ever", 7, x.count(1));
        says("SPARED: those not IN stay so");
        OnOneBreath out = half("3", 14, 13, 15);
        out.mend(2, 3, 0);
        out.mend(0, 6, 9);
        row(out, 0, 1, 2);
        due("each of both, the third does not hold", 0b011, out.spared(0));
        out.mend(0, 6, 4);
        due("the other one is enough", 0, out.spared(0));
        out.mend(1, 3, 0);
        due("the only one", 0b001, out.spared(0));
        due("two not IN", 1, out.count(1));
        says("if that one were not IN: THE LAW has one less");
        OnOneBreath y = half("n=2?3", 14, 88);
        y.mend(0, 6, 4);
        row(y, 0, 1, 2);
        due(3, y.spared(0));
    }

    private static int spareNobody() {
        OnOneBreath x = new OnOneBreath();
        row(x, 0, 1, 2);
        return x.spared(0);
    }

    private static void stand() {
        says("STAND: in which cell a DEFENDER should stand so that a RAID brings least (of like ones the least); that");
        OnOneBreath x = half("0", 44);
        row(x, 0);
        due("LOST anywhere: the least cell", 10, x.stand(0, 0, 0));
        due("LOST anywhere", -2, x.stand(0, 0, 1));
        OnOneBreath y = half("r=7&d=1&c=0?3", 67, 11);
        y.mend(0, 7, 8);
        y.mend(0, 6, 4);
        deepRow(y, 0, 7);
        due("the last cell: 68 and 77 are beside the other one", 88, y.stand(0, 1, 0));
        due(-2, y.stand(0, 1, 1));
        due("it stands where it stood", 11, 10 * y.of(1, 1) + y.of(1, 0));
        y.mend(0, 0, 0);
        due("68 is free now", 68, y.stand(0, 1, 0));
        y.mend(0, 6, 5);
        due("nobody holds him: out of his way", 10, y.stand(0, 1, 0));
        due(0, y.stand(0, 1, 1));
        says("points less those for THEM: 1, 0, -1, -2");
        OnOneBreath z = half("0", 14, 80);
        row(z, 0, 1, 2);
        due("one is TOUCHED at any rate", 1, z.stand(0, 1, 1));
        due("one not TOUCHED is one for THEM", -1, z.stand(0, 0, 1));
        due("one not TOUCHED stands in the least cell", 10, z.stand(0, 0, 0));
        row(z, 0, 1);
        due("LOST", -2, z.stand(0, 0, 1));
        z.defender(80, 1);
        z.defender(80, 1);
        due("LOST, four are IN", -1, z.stand(0, 0, 1));
    }

    private static void mightHe() {
        says("MIGHT HE: the least MIGHT (0 .. 40) by which a RAID is not CAUGHT; NOT");
        OnOneBreath x = half("3");
        row(x, 0, 1, 0, 2);
        due("nobody", 0, x.mightHe(0));
        x.defender(14, 0);
        due("STRONG 0", 0, x.mightHe(0));
        x.mend(0, 2, 1);
        due("STRONG 1", 1, x.mightHe(0));
        x.mend(0, 2, 9);
        for (int i = 0; i < 3; i++) {
            x.defender(14, 9);
        }
        due("36", 36, x.mightHe(0));
        x.defender(14, 4);
        due("40", 40, x.mightHe(0));
        x.mend(4, 2, 5);
        due("41", NOT, x.mightHe(0));
        x.defender(14, 9);
        x.defender(14, 9);
        due("59", NOT, x.mightHe(0));
        row(x, 0);
        due("LOST is not CAUGHT", 0, x.mightHe(0));
        says("whatever MIGHT is, and by the strongest of all seconds");
        OnOneBreath y = half("b+s=5?3;b+s=8?3;b+s=6?3", 14);
        y.mend(0, 6, 0);
        row(y, 0, 1, 0, 0, 0, 2);
        due(5, y.mightHe(0));
        y.defender(14, 7);
        due("5, then 12, then none", 12, y.mightHe(0));
    }

    private static void line() {
        says("CORNERS: who (bits) of those IN is in COLUMN 0 or 8");
        OnOneBreath x = half("", 10, 11, 17, 18, 44, 80, 88);
        due(0b1101001, x.line(0));
        x.mend(6, 3, 0);
        due("one not IN", 0b0101001, x.line(0));
        says("ALONE: who IN has no other one IN no farther than 1");
        OnOneBreath y = half("", 44);
        due("one", 1, y.line(1));
        y.defender(46, 5);
        due("two apart", 3, y.line(1));
        y.defender(55, 5);
        due("aslant", 7, y.line(1));
        y.defender(54, 5);
        due("one apart of two", 0b0010, y.line(1));
        y.mend(3, 3, 0);
        due("one not IN", 0b0111, y.line(1));
        y.defender(46, 5);
        due("on one cell", 0b00101, y.line(1));
        says("CHAIN: the greatest number of those IN that hang together, each no farther than 1 from the next");
        due("nobody", 0, new OnOneBreath().line(2));
        due("one", 1, half("", 44).line(2));
        due("two on one cell", 2, half("", 44, 44).line(2));
        due("two, one apart", 2, half("", 44, 54).line(2));
        due("two, aslant", 1, half("", 44, 55).line(2));
        due("seven in a row", 7, half("", 40, 46, 41, 45, 42, 44, 43).line(2));
        due("four and three", 4, half("", 40, 46, 41, 45, 42, 48, 47).line(2));
        due("the first between two", 3, half("", 44, 43, 45).line(2));
        due("the last between two", 3, half("", 43, 45, 44).line(2));
        due("the first between six", 7, half("", 44, 34, 24, 54, 64, 43, 45).line(2));
        due("seven by corners", 7, half("", 11, 33, 12, 32, 22, 43, 44).line(2));
        OnOneBreath z = half("", 40, 46, 41, 45, 42, 44, 43);
        z.mend(6, 3, 0);
        due("parted by one not IN", 3, z.line(2));
        for (int i = 0; i < 6; i++) {
            z.mend(i, 3, 0);
        }
        due("nobody is IN", 0, z.line(2));
        due("nobody is IN", 0, z.line(1));
        due("nobody is IN", 0, z.line(0));
    }

    // ---- 3

    private static OnOneBreath odds(int deep, int lost, int brief, int away, int theirs) {
        OnOneBreath x = new OnOneBreath();
        int[] all = {deep, lost, brief, away, theirs};
        for (int i = 0; i < 5; i++) {
            x.mend(0, 9 + i, all[i]);
        }
        return x;
    }

    private static void odds() {
        says("LEFT: n raids each (0 .. 20) by turns, LEAD v (-30 .. 30): a tie is half");
        OnOneBreath x = new OnOneBreath();
        due(1000000, x.left(0, 30, 0));
        due(1000000, x.left(0, 1, 0));
        due(500000, x.left(0, 0, 0));
        due(0, x.left(0, -1, 0));
        due(0, x.left(0, -30, 0));
        due(1000000, x.left(10, 30, 0));
        due(0, x.left(20, -30, 0));
        says("n 0: 0");
        for (int lead : new int[] {-30, -1, 0, 1, 30}) {
            due(0, x.left(0, lead, 1));
            for (int e = 0; e <= 2; e++) {
                due(0, x.third(0, lead, e, 1));
            }
        }
        due("a DEEP one, asked ahead of n 0", 1, x.left(1, 0, 1));
        due("n 0 behind it", 0, x.left(0, 0, 1));
        due("a DEEP one, asked ahead of n 0", 1, x.third(1, 0, 2, 1));
        due("n 0 behind it", 0, x.third(0, 0, 2, 1));
        says("ODDS (0 .. 12 of twelve each)");
        due("twenty points of twenty", 500000, odds(12, 0, 0, 0, 0).left(20, -20, 0));
        due("twenty points of twenty", 1000000, odds(12, 0, 0, 0, 0).left(20, -19, 0));
        due("twenty points of twenty", 0, odds(12, 0, 0, 0, 0).left(20, -21, 0));
        due("by SHORT", 500000, odds(0, 0, 12, 0, 0).left(20, -20, 0));
        due("THEY bring twenty", 500000, odds(0, 0, 0, 0, 12).left(20, 20, 0));
        due("THEY bring twenty", 0, odds(0, 0, 0, 0, 12).left(20, 19, 0));
        due("THEY bring twenty", 1000000, odds(0, 0, 0, 0, 12).left(20, 21, 0));
        due("all are empty", 500000, odds(0, 0, 0, 0, 0).left(20, 0, 0));
        due("all are empty", 1000000, odds(0, 0, 0, 0, 0).left(20, 1, 0));
        due("both lose all, fifteen rounds of two", 500000, odds(0, 12, 0, 12, 12).left(15, 30, 0));
        due("both lose all, fourteen", 1000000, odds(0, 12, 0, 12, 12).left(14, 29, 0));
        due("both lose all, sixteen", 0, odds(0, 12, 0, 12, 12).left(16, 30, 0));
        due("the better one of both", 500000, odds(0, 12, 0, 0, 0).left(20, 0, 0));
        says("else (of what is left of twelve) loses one by LOST, as far as there is so much left");
        // One raid, a tie, THEY bring nothing: brings * 1000000 and the rest * 500000.
        due("12 of 12: none is left", 1000000, odds(12, 12, 0, 12, 0).left(1, 0, 0));
        due("11 of 12: one is left, of 12", 11 * 1000000 / 12, odds(11, 12, 0, 12, 0).left(1, 0, 0));
        due("11 of 12: one is left, of 1", 11 * 1000000 / 12, odds(11, 1, 0, 12, 0).left(1, 0, 0));
        due("11 of 12: one is left, of 0", (11 * 1000000 + 500000) / 12, odds(11, 0, 0, 12, 0).left(1, 0, 0));
        due("5 and 7 are all", 5 * 1000000 / 12, odds(5, 7, 0, 12, 0).left(1, 0, 0));
        due("5 and 8 are no more", 5 * 1000000 / 12, odds(5, 8, 0, 12, 0).left(1, 0, 0));
        due("5 and 6 leave one", (5 * 1000000 + 500000) / 12, odds(5, 6, 0, 12, 0).left(1, 0, 0));
        says("a SHORT one likewise (SHORT, AWAY)");
        due("12 of 12: none is left", 1000000, odds(0, 12, 12, 12, 0).left(1, 0, 0));
        due("11 of 12: one is left, of 12", 11 * 1000000 / 12, odds(0, 12, 11, 12, 0).left(1, 0, 0));
        due("11 of 12: one is left, of 0", (11 * 1000000 + 500000) / 12, odds(0, 12, 11, 0, 0).left(1, 0, 0));
        due("5 and 8 are no more", 5 * 1000000 / 12, odds(0, 12, 5, 8, 0).left(1, 0, 0));
        says("which to take now (0 SHORT, 1 DEEP; of like ones 0)");
        due("DEEP", 1, odds(3, 0, 2, 0, 2).left(1, 0, 1));
        due("SHORT", 0, odds(2, 0, 3, 0, 2).left(1, 0, 1));
        due("alike", 0, odds(3, 2, 3, 2, 2).left(1, 0, 1));
        due("alike, though unlike odds: all is won", 0, odds(3, 3, 1, 1, 2).left(2, 30, 1));
        due("alike, though unlike odds: all is lost", 0, odds(3, 3, 1, 1, 2).left(2, -30, 1));
        due("DEEP by one that is cut", 1, odds(1, 0, 0, 0, 0).left(1, 0, 1));
        says("THEY bring a point by THEIRS each raid");
        due("one of twelve", (500000 * 11) / 12, odds(0, 0, 0, 0, 1).left(1, 0, 0));
        due("eleven of twelve", 500000 / 12, odds(0, 0, 0, 0, 11).left(1, 0, 0));
        due("ours first, then theirs: a tie again", 500000, odds(12, 0, 0, 0, 12).left(1, 0, 0));
        says("in millionths (of each raid the sum of twelfths times what comes of it, by 12, cut)");
        int tie = (2 * 0 + 10 * 500000) / 12;
        int ahead = (2 * 500000 + 10 * 1000000) / 12;
        due((3 * ahead + 3 * 0 + 6 * tie) / 12, new OnOneBreath().left(1, 0, 0));
    }

    private static void third() {
        says("THIRD: likewise, but e (0 .. 2) of our raids ahead were empty: a third empty one in a row loses a point");
        OnOneBreath x = odds(0, 0, 0, 0, 0);
        int[] lost = {0, 0, 0, 1, 1, 1, 2, 2, 2, 3, 3, 3, 4, 4, 4, 5, 5, 5, 6, 6, 6, 7, 7};
        for (int n = 0; n <= 20; n++) {
            for (int e = 0; e <= 2; e++) {
                int loses = lost[n + e];
                due("n " + n + ", e " + e, 500000, x.third(n, loses, e, 0));
                due("n " + n + ", e " + e, 0, x.third(n, loses - 1, e, 0));
                due("n " + n + ", e " + e, 1000000, x.third(n, loses + 1, e, 0));
            }
        }
        says("a raid that brings or loses a point is not empty");
        due("all bring", 500000, odds(12, 0, 0, 0, 0).third(20, -20, 2, 0));
        due("all lose", 500000, odds(0, 12, 0, 12, 0).third(20, 20, 2, 0));
        says("THIRD: which");
        due("to lose is no worse than a third empty one", 0, odds(0, 12, 0, 0, 0).third(1, 0, 2, 1));
        due("DEEP brings one of twelve", 1, odds(1, 11, 0, 0, 0).third(1, 0, 2, 1));
        due("the second empty one is none", 0, odds(1, 11, 0, 0, 0).third(1, 0, 1, 1));
        due("likewise LEFT", new OnOneBreath().left(2, 0, 0), new OnOneBreath().third(2, 0, 0, 0));
        due("e 1, the second of two is the third", 1,
                new OnOneBreath().third(2, 0, 1, 0) < new OnOneBreath().left(2, 0, 0) ? 1 : 0);
        due("ends of LEAD", 1000000, new OnOneBreath().third(0, 30, 2, 0));
        due("ends of LEAD", 0, new OnOneBreath().third(20, -30, 0, 0));
    }

    private static void judged() {
        says("two teams of told size (1 .. 7 each, all IN)");
        OnOneBreath x = new OnOneBreath();
        row(x, 0);
        for (int ours = 0; ours <= 9; ours++) {
            for (int theirs = 0; theirs <= 9; theirs++) {
                boolean is = ours >= 1 && ours <= 7 && theirs >= 1 && theirs <= 7;
                due("sizes " + ours + theirs, is ? NOT : BAD, x.judge(0, 10 * ours + theirs));
                if (is) {
                    due("ours " + ours, (1 << ours) - 1, x.bench(0, 10 * ours + theirs, 0, 0));
                    due("theirs " + theirs, (1 << theirs) - 1, x.bench(0, 10 * ours + theirs, 1, 0));
                }
            }
            x = new OnOneBreath();
            row(x, 0);
        }
        says("JUDGED: more points than the others have IN");
        for (int points = 0; points <= 7; points++) {
            for (int size = 1; size <= 7; size++) {
                row(x, 0, points);
                due(points + " of " + size, points <= size ? NOT : 0, x.judge(0, 70 + size));
            }
            x = new OnOneBreath();
        }
        row(x, 0, 2, 0, 2);
        due("three, then one", 2, x.judge(0, 13));
        row(x, 0, 2, 0, 1);
        due("three, then one", NOT, x.judge(0, 13));
        says("JUDGED: nobody IN to raid");
        row(x, 0, 7, 0);
        due("even for 0", 1, x.judge(0, 77));
        row(x, 0, 7, 8);
        due("even for 8", 1, x.judge(0, 77));
        row(x, 0, 6, 0);
        due("one is IN", NOT, x.judge(0, 77));
        row(x, 0, 8, 0, 0);
        due("our only one is out", 2, x.judge(0, 17));
        says("JUDGED: a byte not so");
        for (int value : new int[] {-128, -1, 9, 10, 127}) {
            row(x, 0, 0, 0, value);
            due("byte " + value, 2, x.judge(0, 77));
        }
        row(x, 0, 8, 8, 8);
        due("8 is so", NOT, x.judge(0, 77));
        says("JUDGED: the first that cannot be; NOT");
        row(x, 0, 9, 9);
        due(0, x.judge(0, 77));
        x.row(0, 0, 60);
        due("sixty empty raids", NOT, x.judge(0, 11));
        x.put(0, 59, 2);
        due("the last of sixty", 59, x.judge(0, 11));
        x.put(0, 59, 1);
        due("the last of sixty", NOT, x.judge(0, 11));
        x.put(0, 0, 256);
        due("what is put in keeps its lowest bits", NOT, x.judge(0, 11));
    }

    private static int benched(int what, int team, int sizes, int... raids) {
        OnOneBreath x = new OnOneBreath();
        row(x, 0, raids);
        return x.bench(0, sizes, team, what);
    }

    private static void bench() {
        says("0 .. 7 points of the raid (so many of the others are out, those of least number IN)");
        for (int points = 0; points <= 7; points++) {
            due(points + " out", 127 & ~((1 << points) - 1), benched(0, 1, 77, points));
            due(points + " points", points, benched(2, 0, 77, points));
            due(points + " out, the longest", points == 0 ? NOT : 0, benched(1, 1, 77, points));
            due("none of ours", 127, benched(0, 0, 77, points));
        }
        due("0 is out, so 1 is the least", 0b1111100, benched(0, 1, 77, 1, 0, 1));
        says("our side gets back as many as it brings, the first out first, as many as are out");
        due("two out, one back", 0b1111101, benched(0, 0, 77, 0, 2, 1));
        due("two out, two back", 127, benched(0, 0, 77, 0, 2, 2));
        due("two out, seven brought", 127, benched(0, 0, 77, 0, 2, 7));
        due("none out, one brought", 127, benched(0, 0, 77, 1));
        due("the first out is back: 1 is out longest", 1, benched(1, 0, 77, 0, 2, 1));
        // 2: our 0, 1 out. 1: our 0 back, their 0 out. 1: our 0 out again. 1: our 1 back, which went ahead of 0.
        due("the first out, not the least", 0b1111110, benched(0, 0, 77, 0, 2, 1, 1, 1));
        due("the first out, not the least", 0, benched(1, 0, 77, 0, 2, 1, 1, 1));
        due("by turns: theirs likewise", 0b1111101, benched(0, 1, 77, 2, 1));
        says("8: the raider (the least number IN) is out (the other side gets one back)");
        due("ours", 0b1111110, benched(0, 0, 77, 8));
        due("ours twice", 0b1111100, benched(0, 0, 77, 8, 0, 8));
        due("theirs", 0b1111110, benched(0, 1, 77, 0, 8));
        due("one of two back", 0b1111101, benched(0, 1, 77, 2, 0, 8));
        due("of none none back", 127, benched(0, 1, 77, 8));
        says("who is out longest (NOT)");
        due(NOT, benched(1, 0, 77));
        due(NOT, benched(1, 1, 77, 8));
        due(0, benched(1, 0, 77, 8));
        due("of seven", 0, benched(1, 0, 77, 0, 7));
        due("all are back", NOT, benched(1, 0, 77, 0, 2, 2));
        due("all are back, more were brought", NOT, benched(1, 0, 77, 0, 2, 3));
        due("the second of three", 1, benched(1, 0, 77, 0, 3, 1));
        due("the third of three", 2, benched(1, 0, 77, 0, 3, 2));
        due("theirs, all back by 8", NOT, benched(1, 1, 77, 1, 0, 8));
        // Our 0, 1, 2 out; 0 back; 0 out again behind 1, 2; 1, 2 back: 0 is out longest, and then 1 behind it.
        due("the first out goes first, round and round", 0, benched(1, 0, 77, 0, 3, 1, 1, 2));
        due("IN, round and round", 0b1111110, benched(0, 0, 77, 0, 3, 1, 1, 2));
        due("round and round, one more", 0, benched(1, 0, 77, 0, 3, 1, 1, 2, 1));
        due("IN, round and round, one more", 0b1111100, benched(0, 0, 77, 0, 3, 1, 1, 2, 1));
        says("points of a team (8: a point for the others; as far as it can be)");
        due(0, benched(2, 0, 77));
        due("8 for the others", 1, benched(2, 1, 77, 8));
        due("8 is none for ours", 0, benched(2, 0, 77, 8));
        due("together", 3 + 1, benched(2, 0, 77, 3, 8));
        due("of two raids", 3 + 2, benched(2, 0, 77, 3, 0, 2));
        due("of two raids, theirs", 1 + 2, benched(2, 1, 77, 0, 1, 0, 2));
        due("two raiders out", 2, benched(2, 1, 77, 8, 0, 8));
        OnOneBreath x = new OnOneBreath();
        row(x, 0, 3, 8, 0, 2);
        for (int time = 0; time < 3; time++) {
            due("asked again: points", 3 + 1, x.bench(0, 77, 0, 2));
            due("asked again: points of theirs", 2, x.bench(0, 77, 1, 2));
            due("asked again: IN", 0b1111100, x.bench(0, 77, 0, 0));
            due("asked again: out longest", 0, x.bench(0, 77, 0, 1));
            due("asked again: JUDGED", NOT, x.judge(0, 77));
        }
        due("9 ends it", 3, benched(2, 0, 77, 3, 9, 3));
        due("9 is none", 0, benched(2, 1, 77, 3, 9, 3));
        due("as far as it can be, IN", 0b1111000, benched(0, 1, 77, 3, 9, 3));
        due("as far as it can be, out longest", 0, benched(1, 1, 77, 3, 9, 3));
        due("more than are IN", 0, benched(2, 0, 71, 2));
        due("more than are IN, IN", 1, benched(0, 1, 71, 2));
    }

    /** What raids by draws need to be told again: all stand still, or all hold by 5 over MIGHT 0. */
    private record Told(int[] cells, int start, int breath, int baulk, int reach, boolean hold) {
        OnOneBreath half() {
            OnOneBreath x = BoundariesTest.half(hold ? "3" : "0", cells);
            int[][] all = {{4, breath}, {5, reach}, {6, 0}, {7, start}, {8, baulk}};
            for (int[] one : all) {
                x.mend(0, one[0], one[1]);
            }
            return x;
        }

        /** Points together, how many were CAUGHT, the z behind all. */
        int[] drawn(int seed, int n) {
            int[] all = {0, 0, seed};
            for (int i = 0; i < n; i++) {
                raid(all);
            }
            return all;
        }

        private void raid(int[] all) {
            int row = 0, column = start, deep = 0, touched = 0, end = 0;
            for (int second = 0; second < breath && end == 0; second++) {
                all[2] = all[2] * 1103515245 + 12345;
                boolean free = deep < baulk || (all[2] >>> 16 & 1) == 0;
                int move = free ? (all[2] >>> 8) % 5 : 2;
                int before = row;
                row = move == 1 ? Math.min(8, row + 1) : move == 2 ? Math.max(0, row - 1) : row;
                column = move == 3 ? Math.max(0, column - 1) : move == 4 ? Math.min(8, column + 1) : column;
                deep = Math.max(deep, row);
                end = row == 0 && before > 0 ? HOME : 0;
                for (int d = 0; d < cells.length && row > 0; d++) {
                    int far = Math.abs(cells[d] % 10 - column) + Math.abs(cells[d] / 10 - row);
                    touched |= far <= reach ? 1 << d : 0;
                    end = hold && far <= 1 ? CAUGHT : end;
                }
            }
            all[0] += end == HOME ? Integer.bitCount(touched) : 0;
            all[1] += end == CAUGHT ? 1 : 0;
        }
    }

    private static void drawn() {
        says("DRAWN: n raids (1 .. 50) by a SEED: z = z * 1103515245 + 12345 (an int): points together; how many were CAUGHT");
        int[] cells = {14, 24, 12, 27};
        Told[] all = {new Told(cells, 4, 1, 1, 3, false), new Told(cells, 4, 2, 1, 3, true), new Told(cells, 5, 20, 3, 1, false),
            new Told(cells, 0, 20, 1, 1, true), new Told(cells, 8, 60, 8, 0, false), new Told(cells, 3, 60, 3, 2, false)};
        int[] seeds = {0, 1, -1, LEAST, MOST, 7, 65535, 1 << 16, 123456789};
        int points = 0;
        int caught = 0;
        for (Told told : all) {
            OnOneBreath x = told.half();
            for (int seed : seeds) {
                for (int n : new int[] {1, 2, 49, 50}) {
                    int[] again = told.drawn(seed, n);
                    due("points of SEED " + seed + ", n " + n + ", " + told, again[0], x.drawn(seed, n, 0));
                    due("CAUGHT of SEED " + seed + ", n " + n + ", " + told, again[1], x.drawn(seed, n, 1));
                    points += again[0];
                    caught += again[1];
                }
            }
            due("in thought", 0, x.led(0));
            due("in thought", 4, x.count(1));
        }
        due("some brought points", 1, points > 100 ? 1 : 0);
        due("some were CAUGHT", 1, caught > 100 ? 1 : 0);
        says("SEED at first: the next raid goes on with z");
        Told told = all[5];
        OnOneBreath x = told.half();
        int[] one = told.drawn(7, 1);
        due(one[0] + x.drawn(one[2], 1, 0), x.drawn(7, 2, 0));
        due("asked again, the same", one[0], x.drawn(7, 1, 0));
        says("nobody is there: no points, none CAUGHT");
        due(0, new OnOneBreath().drawn(1, 50, 0));
        due(0, new OnOneBreath().drawn(1, 50, 1));
    }

    // ---- 4

    private static int inside(OnOneBreath x) {
        int bits = 0;
        for (int i = 0; i < x.count(0); i++) {
            bits |= x.of(i, 3) << i;
        }
        return bits;
    }

    private static void deeds() {
        says("TOUCHED ones are not IN any more, if HOME");
        OnOneBreath x = half("0", 14, 14, 14, 14, 14, 14, 14);
        row(x, 0, 1, 2);
        row(x, 1, 1);
        due("LOST: they are", LOST, x.go(1));
        due("LOST: they are", 0b1111111, inside(x));
        due("HOME", HOME, x.go(0));
        due("HOME: none is", 0, inside(x));
        due("seven points", 7, x.led(1));
        says("as many as there are points for THEM come back IN, the least numbers of those not IN");
        due("HOME with none, not deep: one", HOME, x.go(0));
        due("the least", 0b0000001, inside(x));
        due("LOST, one IN: two", LOST, x.go(1));
        due("the least two", 0b0000111, inside(x));
        due("LOST, three IN: two", LOST, x.go(1));
        due("the least two", 0b0011111, inside(x));
        due("LOST, five IN: one", LOST, x.go(1));
        due("the least", 0b0111111, inside(x));
        x.mend(1, 3, 0);
        x.mend(4, 3, 0);
        x.go(1);
        due("the least of those not IN", 0b0101111, inside(x));
        x.go(1);
        due("the next", 0b0111111, inside(x));
        x.go(1);
        x.go(1);
        due("all are IN: none comes", 0b1111111, inside(x));
        OnOneBreath few = half("0", 80);
        row(few, 0);
        few.go(0);
        due("two points for THEM, nobody out", 1, inside(few));
        few.mend(0, 3, 0);
        few.go(0);
        due("two points for THEM, one out", 1, inside(few));
        OnOneBreath none = new OnOneBreath();
        row(none, 0);
        due("nobody is there", LOST, none.go(0));
        due("nobody is there", 2, none.led(2));
        due("nobody is there", 0, none.count(1));
        says("CAUGHT: TOUCHED ones stay IN, and come back IN");
        OnOneBreath caught = half("3", 14, 14, 80, 81);
        caught.mend(3, 3, 0);
        row(caught, 0, 1, 2);
        due(CAUGHT, caught.go(0));
        due(0b1111, inside(caught));
        says("(where all stand stays)");
        OnOneBreath moved = half("2", 14, 88);
        row(moved, 0, 1, 1, 1, 2, 2, 2);
        due(HOME, moved.go(0));
        due(14, 10 * moved.of(0, 1) + moved.of(0, 0));
        due(88, 10 * moved.of(1, 1) + moved.of(1, 0));
        says("ALL come IN: how many were not");
        due("none", 0, half("", 44).allIn());
        due("nobody is there", 0, new OnOneBreath().allIn());
        for (int i = 0; i < 7; i++) {
            x.mend(i, 3, 0);
        }
        due("all seven", 7, x.allIn());
        due("all seven", 0b1111111, inside(x));
        x.mend(6, 3, 0);
        due("one", 1, x.allIn());
        due("none", 0, x.allIn());
        ledOf();
    }

    private static void ledOf() {
        says("LED: raids, points, THEIRS, seconds, CAUGHT");
        OnOneBreath x = half("b=1?3", 14, 13);
        int[][] after = {{0, 0, 0, 0, 0}, {1, 2, 0, 2, 0}, {2, 2, 1, 4, 0}, {3, 2, 3, 5, 0}, {4, 2, 5, 7, 1}};
        row(x, 0, 1, 2);
        row(x, 1, 1, 0);
        for (int raid = 0; raid < after.length; raid++) {
            if (raid > 0) {
                // HOME with two; HOME with none; LOST in a second, two come back; CAUGHT by 10 in the second one.
                x.mend(0, 4, raid == 3 ? 1 : 20);
                x.go(raid < 3 ? 0 : 1);
            }
            for (int what = 0; what < 5; what++) {
                due("raid " + raid + ", what " + what, after[raid][what], x.led(what));
            }
        }
        due("a raid in thought is none", CAUGHT, x.raid(1, 0));
        due("a raid in thought is none", 4, x.led(0));
        x.go(1);
        due("two were CAUGHT", 2, x.led(4));
        x.mend(0, 4, 1);
        x.go(1);
        due("LOST is not CAUGHT", 2, x.led(4));
        due("six raids", 6, x.led(0));
    }

    private static void image() {
        says("AN IMAGE keeps IN, what LED tells: raids; STATE: there is none");
        OnOneBreath x = half("0", 14, 80);
        row(x, 0, 1, 2);
        due(STATE, x.back());
        due(0, x.image());
        due(0, x.back());
        x.go(0);
        due(0b10, inside(x));
        due(1, x.led(0));
        due("raids as they were kept", 0, x.back());
        due(0b11, inside(x));
        for (int what = 0; what < 5; what++) {
            due("what " + what, 0, x.led(what));
        }
        x.go(0);
        due("a later one", 1, x.image());
        x.allIn();
        x.go(0);
        x.go(0);
        due("led meanwhile", 3, x.led(0));
        due("the later one", 1, x.back());
        int[] led = {1, 1, 0, 2, 0};
        for (int what = 0; what < 5; what++) {
            due("what " + what, led[what], x.led(what));
        }
        due(0b10, inside(x));
        due("again", 1, x.back());
        says("(DEFENDERS that came since: IN as it is)");
        x.defender(55, 5);
        x.defender(56, 5);
        x.mend(3, 3, 0);
        x.mend(0, 3, 1);
        due(1, x.back());
        due(0b0110, inside(x));
        x.mend(2, 3, 0);
        x.mend(3, 3, 1);
        due(1, x.back());
        due(0b1010, inside(x));
        says("AN IMAGE of nobody");
        OnOneBreath y = new OnOneBreath();
        due(0, y.image());
        y.defender(55, 5);
        due(0, y.back());
        due(1, inside(y));
        y.mend(0, 3, 0);
        due(0, y.back());
        due(0, inside(y));
        says("AN IMAGE keeps nothing else");
        OnOneBreath z = half("0", 44);
        z.image();
        z.mend(0, 0, 1);
        z.mend(0, 4, 33);
        law(z, "3");
        z.back();
        due(1, z.of(0, 0));
        due(33, z.of(0, 4));
        due(3, z.does(0, 0, 0));
        due(2, z.count(3));
    }

    private static void changes() {
        says("CHANGES can be UNDONE: 40 at most are kept");
        for (int n = 38; n <= 42; n++) {
            OnOneBreath x = new OnOneBreath();
            due(STATE, x.undo());
            for (int i = 1; i <= n; i++) {
                x.mend(0, 4, i < 20 ? i : i + 1);
                due("change " + i + " of " + n, Math.min(i, 40), x.count(3));
            }
            int kept = Math.min(n, 40);
            for (int i = kept - 1; i >= 0; i--) {
                due("UNDONE, of " + n, i, x.undo());
                due("count(3), of " + n, i, x.count(3));
            }
            due("no more, of " + n, STATE, x.undo());
            int[] first = {20, 1, 2};
            due("what stands, of " + n, first[n - kept], x.of(0, 4));
            for (int i = kept - 1; i >= 0; i--) {
                due("DONE AGAIN, of " + n, i, x.redo());
            }
            due("no more, of " + n, STATE, x.redo());
            due("all again, of " + n, kept, x.count(3));
        }
        says("CHANGES: all numbers of mend()");
        OnOneBreath x = half("", 44);
        int[] was = {4, 4, 5, 1, 20, 1, 9, 4, 3, 3, 3, 1, 1, 2};
        int[] told = {0, 8, 9, 0, 60, 3, 40, 8, 8, 12, 12, 12, 12, 12};
        for (int what = 0; what < 14; what++) {
            due("mend, what " + what, was[what], x.mend(0, what, told[what]));
            due("undo, what " + what, 0, x.undo());
            due("undone, what " + what, was[what], x.of(0, what));
            due("redo, what " + what, 0, x.redo());
            due("done again, what " + what, told[what], x.of(0, what));
            x.undo();
        }
        undone();
        manyOfAllSorts();
    }

    /** 41 changes of several DEFENDERS and numbers: the first is kept no more, the others are, each with its own number. */
    private static void manyOfAllSorts() {
        says("40 at most are kept: number, what, and both values of each");
        OnOneBreath x = half("", 44, 44, 44);
        int[][] told = new int[41][];
        for (int i = 0; i < 41; i++) {
            int what = i % 5;
            told[i] = new int[] {what < 3 ? i % 3 : 0, what < 3 ? what : what + 3, 0, 0};
            int now = x.of(told[i][0], told[i][1]);
            told[i][2] = now;
            told[i][3] = now == 1 + i % 3 ? 4 + i % 3 : 1 + i % 3;
            due("change " + i, now, x.mend(told[i][0], told[i][1], told[i][3]));
        }
        for (int i = 40; i >= 1; i--) {
            due("UNDONE " + i, i - 1, x.undo());
            due("UNDONE " + i, told[i][2], x.of(told[i][0], told[i][1]));
        }
        due("the first stands", STATE, x.undo());
        due("the first stands", told[0][3], x.of(0, 0));
        for (int i = 1; i <= 40; i++) {
            due("DONE AGAIN " + i, 40 - i, x.redo());
            due("DONE AGAIN " + i, told[i][3], x.of(told[i][0], told[i][1]));
        }
        due("no more", STATE, x.redo());
    }

    private static void undone() {
        says("the latest first, and DONE AGAIN (as long as no other came behind)");
        OnOneBreath x = half("", 44, 55);
        x.mend(0, 0, 1);
        x.mend(1, 2, 9);
        x.mend(0, 0, 2);
        due(2, x.undo());
        due(1, x.of(0, 0));
        due(1, x.undo());
        due(5, x.of(1, 2));
        due(1, x.redo());
        due(9, x.of(1, 2));
        x.mend(0, 7, 0);
        due("another came behind", STATE, x.redo());
        due(1, x.of(0, 0));
        due(3, x.count(3));
        says("telling the same number is none; deeds are none (IN by them, too)");
        OnOneBreath y = half("0", 14, 80);
        row(y, 0, 1, 2);
        y.mend(0, 6, 8);
        y.mend(0, 6, 7);
        y.undo();
        y.mend(0, 6, 8);
        y.mend(0, 6, 41);
        y.defender(33, 1);
        y.go(0);
        y.image();
        y.allIn();
        y.go(0);
        y.back();
        law(y, "1");
        y.body(0);
        due("all these are none", 1, y.count(3));
        due("all these are none", 0, y.redo());
        due(7, y.of(0, 6));
        says("IN by mend() is a change, whatever deeds made of it meanwhile");
        OnOneBreath z = half("0", 14, 80);
        row(z, 0, 1, 2);
        z.mend(1, 3, 0);
        z.allIn();
        due(1, z.of(1, 3));
        due("undone: as it was ahead of it", 0, z.undo());
        due(1, z.of(1, 3));
        z.go(0);
        due("done again", 0, z.redo());
        due(0, z.of(1, 3));
        due("what go() did stands", 0, z.of(0, 3));
        z.undo();
        due("no undo of go()", 0, z.of(0, 3));
        due(STATE, z.undo());
        says("telling the same number as a deed made is none");
        due(0, z.mend(0, 3, 0));
        due(0, z.count(3));
        due("done again still", 0, z.redo());
    }

    // ---- 5

    private static void bodies() {
        says("BODIES 0 .. 49 are kept by call, of KINDS 0 .. 7; FULL");
        OnOneBreath x = new OnOneBreath();
        for (int i = 0; i < 50; i++) {
            due(i, x.body(7 - i % 8));
            due(i + 1, x.count(4));
        }
        due(FULL, x.body(0));
        due(50, x.count(4));
        for (int i = 0; i < 50; i++) {
            due("BODY " + i, 1, x.keep(0, i));
            due("BODY " + i, 7 - i % 8, x.taken(0, 0));
        }
        due("BODY 50", BAD, x.keep(0, 50));
        due("BODY 49 is an EMPTY", (1 + 49) * 2, x.act(49, 0, 1));
        due("BODY 50", 0, x.act(50, 0, 1));
    }

    /** goes, touches, holds, tells by KIND, as the rows of BODIES read when they are put together. */
    private static int actOf(int kind, int n, int act, int x) {
        int goes = x + n + (kind == 1 || kind == 4 ? 3 : 0);
        goes = kind == 6 ? goes * 2 : kind == 7 ? goes * 2 - 1 : goes;
        if (act == 0) {
            return goes;
        }
        if (act == 1) {
            boolean hold = kind == 3 || kind == 5;
            int touches = kind == 2 ? -(goes * 2) : hold ? -((goes + 1) * 2) : goes * 2;
            return kind == 7 ? touches + (2 ^ n) : touches;
        }
        if (act == 2) {
            int holds = kind == 3 || kind == 5 ? (x ^ n) * 3 : x ^ n;
            return kind == 5 ? holds - (2 + n) : holds;
        }
        int tells = actOf(kind, n, 1, x) - actOf(kind, n, 2, 1);
        return kind == 4 ? tells ^ 5 : kind == 5 ? tells + 1 : tells;
    }

    private static void acts() {
        says("ACTS with x (an int that wraps); n its number");
        int[] all = {LEAST, LEAST + 1, LEAST / 2 - 1, -2, -1, 0, 1, 2, 5, 1 << 30, MOST - 1, MOST};
        for (int times : new int[] {0, 8, 40}) {
            OnOneBreath x = new OnOneBreath();
            for (int i = 0; i < times + 8 && i < 50; i++) {
                x.body(i % 8);
            }
            for (int kind = 0; kind < 8; kind++) {
                for (int act = 0; act < 4; act++) {
                    for (int v : all) {
                        due("KIND " + kind + ", act " + act + " of " + v, actOf(kind, times + kind, act, v), x.act(times + kind, act, v));
                    }
                }
            }
        }
        says("0, and no TRACE then: no such BODY, ACT");
        int[][] none = {{-1, 0}, {1, 0}, {LEAST, 0}, {MOST, 0}, {0, -1}, {0, 4}, {0, LEAST}, {0, MOST}, {49, 1}, {50, 1}};
        for (int[] one : none) {
            OnOneBreath x = new OnOneBreath();
            x.body(5);
            x.act(0, 3, 5);
            due(10, x.count(5));
            due("act(" + one[0] + ", " + one[1] + ", 7)", 0, x.act(one[0], one[1], 7));
            due(BAD, x.trace(0));
            due(BAD, x.trace(9));
            due(0, x.count(5));
        }
    }

    private static void trace() {
        says("THE TRACE: numbers of the bodies that ran in the latest act(), as they began");
        int[][][] ran = {
            {{1}, {10, 1}, {11}, {2, 10, 1, 11}},
            {{20, 1}, {10, 20, 1}, {11}, {2, 10, 20, 1, 11}},
            {{1}, {30, 10, 1}, {11}, {2, 30, 10, 1, 11}},
            {{1}, {41, 30, 10, 1}, {40, 11}, {2, 41, 30, 10, 1, 40, 11}},
            {{20, 1}, {10, 20, 1}, {11}, {50, 2, 10, 20, 1, 11}},
            {{1}, {41, 30, 10, 1}, {60, 40, 11, 1}, {61, 2, 41, 30, 10, 1, 60, 40, 11, 1}},
            {{70, 1}, {10, 70, 1}, {11}, {2, 10, 70, 1, 11}},
            {{81, 70, 1}, {80, 10, 81, 70, 1, 11}, {11}, {2, 80, 10, 81, 70, 1, 11, 11}}};
        for (int kind = 0; kind < 8; kind++) {
            OnOneBreath x = new OnOneBreath();
            x.body(kind);
            due("no act so far", BAD, x.trace(0));
            due("no act so far", 0, x.count(5));
            for (int act = 0; act < 4; act++) {
                x.act(0, act, 5);
                int[] numbers = ran[kind][act];
                due("KIND " + kind + ", act " + act, numbers.length, x.count(5));
                due("KIND " + kind + ", act " + act + ", -1", BAD, x.trace(-1));
                for (int i = 0; i < 26; i++) {
                    due("KIND " + kind + ", act " + act + ", " + i, i < numbers.length ? numbers[i] : BAD, x.trace(i));
                }
            }
            x.act(0, 0, 5);
            due("the latest alone", ran[kind][0].length, x.count(5));
            due("the latest alone", BAD, x.trace(ran[kind][0].length));
        }
        says("THE TRACE is of act() alone");
        OnOneBreath x = new OnOneBreath();
        x.body(0);
        x.act(0, 1, 5);
        x.body(9);
        x.body(1);
        x.keep(0, 0);
        x.taken(0, 0);
        due(2, x.count(5));
        due(10, x.trace(0));
        due(1, x.trace(1));
    }

    private static void shelves() {
        says("SHELVES 0 .. 5 each hold nothing (at first), a BODY, or a ROW");
        OnOneBreath x = new OnOneBreath();
        x.body(4);
        for (int shelf = -1; shelf <= 6; shelf++) {
            boolean is = shelf >= 0 && shelf <= 5;
            due("SHELF " + shelf + " at first", is ? -11 : BAD, x.taken(shelf, 0));
            due("SHELF " + shelf + " at first", is ? -11 : BAD, x.put(shelf, 0, 1));
            due("SHELF " + shelf, is ? 1 : BAD, x.keep(shelf, 0));
            due("SHELF " + shelf, is ? 4 : BAD, x.taken(shelf, 4));
            due("SHELF " + shelf, is ? -12 : BAD, x.put(shelf, 0, 1));
            due("SHELF " + shelf, is ? 1 : BAD, x.row(shelf, 1, 1));
            due("SHELF " + shelf, is ? -12 : BAD, x.taken(shelf, 4));
            due("SHELF " + shelf, is ? 1 : BAD, x.put(shelf, 0, 1));
            due("SHELF " + shelf, is ? 1 : BAD, x.keep(shelf, -1));
            due("SHELF " + shelf, is ? -11 : BAD, x.taken(shelf, 4));
            due("SHELF " + shelf, is ? -11 : BAD, x.put(shelf, 0, 1));
            due("SHELF " + shelf + ", nothing twice", is ? 1 : BAD, x.keep(shelf, -1));
        }
        says("a ROW of 0 .. 60 elements, 0 at first (false)");
        for (int sort = 0; sort <= 4; sort++) {
            for (int n : new int[] {0, 1, 2, 59, 60}) {
                due("sort " + sort + ", n " + n, 1, x.row(0, sort, n));
                due("sort " + sort + ", n " + n + ": just behind it", -13, x.put(0, n, 7));
                due("sort " + sort + ", n " + n + ": ahead of it", -13, x.put(0, -1, 7));
                due("sort " + sort + ", n " + n + ": just behind it", Long.MIN_VALUE, x.element(0, n));
                due("sort " + sort + ", n " + n + ": ahead of it", Long.MIN_VALUE, x.element(0, -1));
                if (n > 0) {
                    due("sort " + sort + ", n " + n + ": at first", 0, x.element(0, 0));
                    due("sort " + sort + ", n " + n + ": at first", 0, x.element(0, n - 1));
                    due("sort " + sort + ", n " + n, 1, x.put(0, n - 1, 1));
                    due("sort " + sort + ", n " + n, 1, x.element(0, n - 1));
                }
            }
        }
        says("a new ROW is 0 at first, and of its own length");
        due(1, x.row(0, 3, 3));
        x.put(0, 2, 77);
        due(1, x.row(0, 3, 3));
        due(0, x.element(0, 2));
        due(1, x.row(0, 3, 2));
        due(Long.MIN_VALUE, x.element(0, 2));
        says("the SHELVES stand apart");
        for (int shelf = 0; shelf < 6; shelf++) {
            x.row(shelf, 2, 1);
        }
        for (int shelf = 0; shelf < 6; shelf++) {
            x.put(shelf, 0, 10 + shelf);
        }
        for (int shelf = 0; shelf < 6; shelf++) {
            due(10 + shelf, x.element(shelf, 0));
        }
    }

    private static void elements() {
        says("what is put in keeps its lowest bits (a boolean: whether it is not 0; 1 or 0)");
        long[][] kept = {
            // v, then as byte, short, int, long, boolean
            {0, 0, 0, 0, 0, 0},
            {1, 1, 1, 1, 1, 1},
            {2, 2, 2, 2, 2, 1},
            {-1, -1, -1, -1, -1, 1},
            {127, 127, 127, 127, 127, 1},
            {128, -128, 128, 128, 128, 1},
            {255, -1, 255, 255, 255, 1},
            {256, 0, 256, 256, 256, 1},
            {-128, -128, -128, -128, -128, 1},
            {-129, 127, -129, -129, -129, 1},
            {32767, -1, 32767, 32767, 32767, 1},
            {32768, 0, -32768, 32768, 32768, 1},
            {65535, -1, -1, 65535, 65535, 1},
            {65536, 0, 0, 65536, 65536, 1},
            {-32769, -1, 32767, -32769, -32769, 1},
            {2147483647L, -1, -1, 2147483647L, 2147483647L, 1},
            {2147483648L, 0, 0, -2147483648L, 2147483648L, 1},
            {4294967295L, -1, -1, -1, 4294967295L, 1},
            {4294967296L, 0, 0, 0, 4294967296L, 1},
            {-2147483649L, -1, -1, 2147483647L, -2147483649L, 1},
            {Long.MAX_VALUE, -1, -1, -1, Long.MAX_VALUE, 1},
            {Long.MIN_VALUE, 0, 0, 0, Long.MIN_VALUE, 1}};
        for (int sort = 0; sort < 5; sort++) {
            OnOneBreath x = new OnOneBreath();
            x.row(0, sort, 3);
            x.put(0, 0, 1);
            x.put(0, 2, 1);
            for (long[] k : kept) {
                due("sort " + sort + ", " + k[0], 1, x.put(0, 1, k[0]));
                due("sort " + sort + ", " + k[0], k[1 + sort], x.element(0, 1));
            }
            due("the one ahead of it", 1, x.element(0, 0));
            due("the one behind it", 1, x.element(0, 2));
        }
    }

    private static OnOneBreath counted(int shelf, int sort, int n) {
        OnOneBreath x = new OnOneBreath();
        x.row(shelf, sort, n);
        for (int i = 0; i < n; i++) {
            x.put(shelf, i, i + 1);
        }
        return x;
    }

    private static void shift() {
        says("n elements of a ROW from i on come to another one (or the same) from j on, as they all were before: n");
        for (int i = 0; i <= 4; i++) {
            for (int j = 0; j <= 4; j++) {
                for (int n = -1; n <= 5; n++) {
                    OnOneBreath x = counted(0, 3, 4);
                    boolean can = n >= 0 && i + n <= 4 && j + n <= 4;
                    String what = "shift(0, " + i + ", 0, " + j + ", " + n + ")";
                    due(what, can ? n : -13, x.shift(0, i, 0, j, n));
                    for (int k = 0; k < 4; k++) {
                        due(what + ", " + k, can && k >= j && k < j + n ? i + k - j + 1 : k + 1, x.element(0, k));
                    }
                }
            }
        }
        for (int i = -1; i <= 4; i++) {
            for (int j = -1; j <= 3; j++) {
                for (int n = 0; n <= 3; n++) {
                    OnOneBreath x = counted(0, 1, 3);
                    x.row(5, 1, 2);
                    boolean can = i >= 0 && j >= 0 && i + n <= 3 && j + n <= 2;
                    String what = "shift(0, " + i + ", 5, " + j + ", " + n + ")";
                    due(what, can ? n : -13, x.shift(0, i, 5, j, n));
                    for (int k = 0; k < 2; k++) {
                        due(what + ", " + k, can && k >= j && k < j + n ? i + k - j + 1 : 0, x.element(5, k));
                    }
                }
            }
        }
        says("60 elements");
        OnOneBreath x = counted(0, 2, 60);
        x.row(1, 2, 60);
        due(60, x.shift(0, 0, 1, 0, 60));
        due(1, x.element(1, 0));
        due(60, x.element(1, 59));
        due(59, x.shift(1, 0, 1, 1, 59));
        due(1, x.element(1, 1));
        due(59, x.element(1, 59));
        due(-13, x.shift(0, 0, 1, 0, 61));
        says("ROWS of no elements");
        x.row(2, 2, 0);
        due(0, x.shift(2, 0, 2, 0, 0));
        due(0, x.shift(0, 60, 2, 0, 0));
        due(-13, x.shift(2, 0, 0, 0, 1));
        due(-13, x.shift(2, 1, 0, 0, 0));
        says("of each sort");
        for (int sort = 0; sort < 5; sort++) {
            OnOneBreath y = new OnOneBreath();
            y.row(0, sort, 2);
            y.row(1, sort, 2);
            y.put(0, 0, 1);
            due(1, y.shift(0, 0, 1, 1, 1));
            due(1, y.element(1, 1));
            due(0, y.element(1, 0));
        }
    }

    private static void taken() {
        says("taken for a BODY of KIND k (0 .. 7), or under it: its KIND");
        int[][] under = {{0}, {1, 0}, {2, 0}, {3, 2, 0}, {4, 1, 0}, {5, 3, 2, 0}, {6, 0}, {7, 6, 0}};
        OnOneBreath x = new OnOneBreath();
        for (int kind = 0; kind < 8; kind++) {
            x.body(kind);
            x.keep(0, kind);
            for (int k = 0; k < 8; k++) {
                int due = -12;
                for (int is : under[kind]) {
                    due = is == k ? kind : due;
                }
                due(kind + " for " + k, due, x.taken(0, k));
            }
        }
    }

    private static int came(int i, int n, int... values) {
        OnOneBreath x = new OnOneBreath();
        row(x, 0, values);
        int came = x.defenders(0, i, n);
        due("as many as came are there", Math.max(0, came), x.count(0));
        due("as many as came are IN", Math.max(0, came), x.count(1));
        return came;
    }

    private static void fromRow() {
        says("DEFENDERS FROM A ROW of bytes, from place i on: by threes COLUMN, ROW, STRONG: n (1 .. 7) of them");
        int[] seven = {0, 1, 0, 8, 8, 9, 1, 1, 1, 2, 2, 2, 3, 3, 3, 4, 4, 4, 5, 5, 5};
        for (int n = 0; n <= 8; n++) {
            due("n " + n, n >= 1 && n <= 7 ? n : BAD, came(0, n, seven));
        }
        OnOneBreath x = new OnOneBreath();
        row(x, 0, seven);
        due(7, x.defenders(0, 0, 7));
        int[][] told = {{0, 1, 0}, {8, 8, 9}, {1, 1, 1}, {2, 2, 2}, {3, 3, 3}, {4, 4, 4}, {5, 5, 5}};
        for (int d = 0; d < 7; d++) {
            for (int what = 0; what < 3; what++) {
                due("DEFENDER " + d + ", what " + what, told[d][what], x.of(d, what));
            }
        }
        due("no changes", 0, x.count(3));
        says("it ends where the row ends (within a three, too)");
        due(0, came(0, 7));
        due(0, came(0, 7, 1));
        due(0, came(0, 7, 1, 1));
        due(1, came(0, 7, 1, 1, 1));
        due(1, came(0, 7, 1, 1, 1, 1));
        due(1, came(0, 7, 1, 1, 1, 1, 1));
        due(2, came(0, 7, 1, 1, 1, 1, 1, 1));
        due("i -1", 0, came(-1, 1, 1, 1, 1, 1));
        due("i 1", 1, came(1, 1, 9, 1, 1, 1));
        due("i 3 of 6", 1, came(3, 7, 9, 9, 9, 1, 1, 1));
        due("i 4 of 6", 0, came(4, 7, 1, 1, 1, 1, 1, 1));
        due("i 6 of 6", 0, came(6, 7, 1, 1, 1, 1, 1, 1));
        due("i 7 of 6", 0, came(7, 7, 1, 1, 1, 1, 1, 1));
        OnOneBreath y = new OnOneBreath();
        y.row(0, 0, 60);
        y.put(0, 58, 1);
        due("i 57 of 60", 1, y.defenders(0, 57, 7));
        due("i 58 of 60", 0, y.defenders(0, 58, 7));
        says("one is not as it may be");
        for (int v = -2; v <= 10; v++) {
            due("COLUMN " + v, v >= 0 && v <= 8 ? 2 : 1, came(0, 3, 1, 1, 1, v, 1, 1));
            due("ROW " + v, v >= 1 && v <= 8 ? 2 : 1, came(0, 3, 1, 1, 1, 1, v, 1));
            due("STRONG " + v, v >= 0 && v <= 9 ? 2 : 1, came(0, 3, 1, 1, 1, 1, 1, v));
        }
        due("none behind it comes", 1, came(0, 3, 1, 1, 1, 9, 1, 1, 1, 1, 1));
        due("256 and 1 keep their lowest bits", 1, came(0, 1, 257, 257, 256));
        says("or DEFENDERS are FULL: those ahead came");
        OnOneBreath z = half("", 44, 44, 44, 44, 44);
        row(z, 0, seven);
        due(2, z.defenders(0, 0, 7));
        due(7, z.count(0));
        due(0, z.defenders(0, 0, 7));
        due(7, z.count(0));
        due("the sixth", 0, z.of(5, 0));
        due("the seventh", 8, z.of(6, 0));
    }

    private static void counts() {
        says("How many: 0 DEFENDERS, 1 IN, 2 bytes, 3 changes that may be UNDONE, 4 BODIES, 5 bodies that ran; nothing there yet");
        OnOneBreath x = new OnOneBreath();
        for (int what = 0; what < 6; what++) {
            due("what " + what, 0, x.count(what));
        }
        says("How many, where all is full");
        for (int i = 0; i < 9; i++) {
            x.defender(44, 5);
        }
        for (int i = 0; i < 122; i++) {
            x.feed('(');
        }
        for (int i = 0; i < 43; i++) {
            x.mend(i % 7, 3, i / 7 % 2 == 0 ? 0 : 1);
        }
        for (int i = 0; i < 52; i++) {
            x.body(5);
        }
        x.act(49, 3, 0);
        int[] all = {7, 6, 120, 40, 50, 10};
        for (int what = 0; what < 6; what++) {
            due("what " + what, all[what], x.count(what));
        }
        x.undo();
        due("one UNDONE", 39, x.count(3));
        due("one UNDONE", 7, x.count(1));
        due("a FAULT empties it", fault(6), x.law());
        due("a FAULT empties it", 0, x.count(2));
    }
}
