import java.util.ArrayDeque;
import java.util.ArrayList;
import java.util.HashSet;
import java.util.List;
import java.util.Random;
import java.util.Set;
import java.util.TreeSet;

/** Random runs of calls, each answer against a second, slow telling of the document that shares no code with the class. */
public final class ModelTest {
    private static final int BAD = -1, NOT = -2, FULL = -3, STATE = -5, VOID = -2000000000;
    private static int wrong = 0;

    public static void main(String[] args) {
        long calls = 0;
        for (int run = 0; run < 520 && wrong < 20; run++) {
            calls += new Run(run).play();
        }
        System.out.println(calls + " calls against the model, " + wrong + " wrong");
        if (wrong != 0) {
            System.exit(1);
        }
    }

    /** What a law is worked out to, as a tree. */
    private interface Tree {
        int of(int[] names);
    }

    private record Line(Tree first, Tree value) {
    }

    private static final class Fault extends RuntimeException {
        final int place;

        Fault(int place) {
            super("", null, false, false);
            this.place = place;
        }
    }

    /** Reads by the grammar, one method a rule. */
    private static final class Parser {
        private final String text;
        private int at = 0;

        Parser(String text) {
            this.text = text;
        }

        List<Line> lines() {
            List<Line> lines = new ArrayList<>();
            lines.add(line());
            while (peek() == ';') {
                at++;
                lines.add(line());
            }
            if (at < text.length()) {
                throw new Fault(at);
            }
            return lines;
        }

        private int peek() {
            return at < text.length() ? text.charAt(at) : -1;
        }

        private Line line() {
            Tree a = e(0);
            if (peek() == '?') {
                at++;
                return new Line(a, e(0));
            }
            return new Line(null, a);
        }

        private Tree e(int open) {
            Tree a = a(open);
            while (peek() == '|') {
                at++;
                Tree l = a, r = a(open);
                a = n -> l.of(n) != 0 | r.of(n) != 0 ? 1 : 0;
            }
            return a;
        }

        private Tree a(int open) {
            Tree a = b(open);
            while (peek() == '&') {
                at++;
                Tree l = a, r = b(open);
                a = n -> l.of(n) != 0 & r.of(n) != 0 ? 1 : 0;
            }
            return a;
        }

        private Tree b(int open) {
            Tree l = s(open);
            int sign = peek();
            if (sign != '<' && sign != '=' && sign != '>') {
                return l;
            }
            at++;
            Tree r = s(open);
            return n -> (sign == '<' ? l.of(n) < r.of(n) : sign == '=' ? l.of(n) == r.of(n) : l.of(n) > r.of(n)) ? 1 : 0;
        }

        private Tree s(int open) {
            Tree a = p(open);
            while (peek() == '+' || peek() == '-') {
                boolean plus = peek() == '+';
                at++;
                Tree l = a, r = p(open);
                a = n -> plus ? l.of(n) + r.of(n) : l.of(n) - r.of(n);
            }
            return a;
        }

        private Tree p(int open) {
            Tree a = o(open);
            while (peek() == '*' || peek() == '/' || peek() == '%') {
                int sign = peek();
                at++;
                Tree l = a, r = o(open);
                a = n -> {
                    int x = l.of(n), y = r.of(n);
                    return sign == '*' ? x * y : y == 0 ? 0 : sign == '/' ? x / y : x % y;
                };
            }
            return a;
        }

        private Tree o(int open) {
            int sign = peek();
            if (sign >= '0' && sign <= '9') {
                int from = at;
                while (peek() >= '0' && peek() <= '9') {
                    if (at - from == 4) {
                        throw new Fault(at);
                    }
                    at++;
                }
                int v = Integer.parseInt(text.substring(from, at));
                return n -> v;
            }
            int name = sign < 0 ? -1 : "drbsnc".indexOf(sign);
            if (name >= 0) {
                at++;
                return n -> n[name];
            }
            if (sign != '(' && sign != '!' && sign != '-' || open == 6) {
                throw new Fault(at);
            }
            at++;
            if (sign == '(') {
                Tree inner = e(open + 1);
                if (peek() != ')') {
                    throw new Fault(at);
                }
                at++;
                return inner;
            }
            Tree inner = o(open + 1);
            return sign == '!' ? n -> inner.of(n) == 0 ? 1 : 0 : n -> -inner.of(n);
        }
    }

    private static final class Defender {
        int column, row, strong;
        boolean in = true;

        Defender(int column, int row, int strong) {
            this.column = column;
            this.row = row;
            this.strong = strong;
        }

        Defender copy() {
            Defender d = new Defender(column, row, strong);
            d.in = in;
            return d;
        }

        int far(int c, int r) {
            return Math.abs(column - c) + Math.abs(row - r);
        }
    }

    private interface Mover {
        int move(int second, int deepest);
    }

    /** A whole raid on copies. */
    private static final class Raid {
        final List<Defender> all = new ArrayList<>();
        final int[] num;
        final List<Line> law;
        int c, r = 0, end = 0, seconds = 0, deepest = 0, holds = 0;
        final Set<Integer> touched = new HashSet<>();

        Raid(Model m) {
            for (Defender d : m.all) {
                all.add(d.copy());
            }
            num = m.num.clone();
            law = m.law;
            c = num[7];
        }

        long in() {
            return all.stream().filter(d -> d.in).count();
        }

        int does(Defender me, int b) {
            int d = me.far(c, r);
            if (law == null) {
                if (r >= 4 && d <= 1) {
                    return 3;
                }
                return r >= 4 ? 1 : d <= 2 ? 2 : 0;
            }
            int near = (int) all.stream().filter(o -> o.in && o.far(me.column, me.row) == 1).count();
            int[] names = {d, r, b, me.strong, (int) in(), near};
            for (Line line : law) {
                if (line.first == null || line.first.of(names) != 0) {
                    return (int) (Math.abs((long) line.value.of(names)) % 4);
                }
            }
            return 0;
        }

        Raid play(Mover mover, int upTo) {
            while (seconds < num[4] && seconds < upTo && end == 0) {
                second(mover.move(seconds, deepest));
            }
            if (end == 0) {
                end = 3;
            }
            return this;
        }

        private void second(int move) {
            int before = r;
            int nc = c + (move == 4 ? 1 : move == 3 ? -1 : 0);
            int nr = r + (move == 1 ? 1 : move == 2 ? -1 : 0);
            if (nc >= 0 && nc <= 8 && nr >= 0 && nr <= 8) {
                c = nc;
                r = nr;
            }
            int b = seconds++;
            holds = 0;
            if (r == 0 && before > 0) {
                end = 1;
                return;
            }
            deepest = Math.max(deepest, r);
            for (int i = 0; i < all.size(); i++) {
                if (r >= 1 && all.get(i).in && all.get(i).far(c, r) <= num[5]) {
                    touched.add(i);
                }
            }
            int force = 0;
            for (int i = 0; i < all.size(); i++) {
                Defender d = all.get(i);
                if (d.in) {
                    force += acts(i, d, does(d, b));
                }
            }
            if (force > num[6]) {
                end = 2;
            }
        }

        private int acts(int i, Defender d, int what) {
            if (what == 1) {
                int nc = d.column, nr = d.row;
                if (nc != c) {
                    nc += Integer.signum(c - nc);
                } else {
                    nr += Integer.signum(r - nr);
                }
                if (nr != 0 && !(nc == c && nr == r)) {
                    d.column = nc;
                    d.row = nr;
                }
            } else if (what == 2) {
                d.row = d.row == 8 ? 8 : d.row + 1;
            } else if (what == 3 && r >= 1 && d.far(c, r) <= 1) {
                holds |= 1 << i;
                return d.strong;
            }
            return 0;
        }

        int points() {
            return end == 1 ? touched.size() : 0;
        }

        int theirs() {
            if (end == 1) {
                return touched.isEmpty() && deepest < num[8] ? 1 : 0;
            }
            return in() <= 3 ? 2 : 1;
        }

        int bits() {
            int b = 0;
            for (int i : touched) {
                b |= 1 << i;
            }
            return b;
        }
    }

    private static final class Slot {
        int sort = -2, body = -1;
        long[] row;
    }

    private static final class Team {
        final TreeSet<Integer> in = new TreeSet<>();
        final ArrayDeque<Integer> out = new ArrayDeque<>();
        int points = 0;
    }

    private static class Moment {
        final int n;
        final List<Integer> ran;

        Moment(int n, List<Integer> ran) {
            this.n = n;
            this.ran = ran;
        }

        int goes(int x) { ran.add(1); return x + n; }
        int touches(int x) { ran.add(10); return goes(x) * 2; }
        int holds(int x) { ran.add(11); return x ^ n; }
        int tells(int x) { ran.add(2); return touches(x) - holds(1); }
    }

    private static class Feint extends Moment {
        Feint(int n, List<Integer> ran) { super(n, ran); }
        @Override int goes(int x) { ran.add(20); return super.goes(x) + 3; }
    }

    private static class Touch extends Moment {
        Touch(int n, List<Integer> ran) { super(n, ran); }
        @Override int touches(int x) { ran.add(30); return -super.touches(x); }
    }

    private static class Hold extends Touch {
        Hold(int n, List<Integer> ran) { super(n, ran); }
        @Override int holds(int x) { ran.add(40); return super.holds(x) * 3; }
        @Override int touches(int x) { ran.add(41); return super.touches(x + 1); }
    }

    private static class Chain extends Feint {
        Chain(int n, List<Integer> ran) { super(n, ran); }
        @Override int tells(int x) { ran.add(50); return super.tells(x) ^ 5; }
    }

    private static class Corner extends Hold {
        Corner(int n, List<Integer> ran) { super(n, ran); }
        @Override int holds(int x) { ran.add(60); return super.holds(x) - goes(2); }
        @Override int tells(int x) { ran.add(61); return super.tells(x) + 1; }
    }

    private static class Empty extends Moment {
        Empty(int n, List<Integer> ran) { super(n, ran); }
        @Override int goes(int x) { ran.add(70); return super.goes(x) * 2; }
    }

    private static class Last extends Empty {
        Last(int n, List<Integer> ran) { super(n, ran); }
        @Override int touches(int x) { ran.add(80); return super.touches(x) + holds(2); }
        @Override int goes(int x) { ran.add(81); return super.goes(x) - 1; }
    }

    private static final class Model {
        final List<Defender> all = new ArrayList<>();
        final int[] num = {0, 0, 0, 0, 20, 1, 9, 4, 3, 3, 3, 1, 1, 2};
        List<Line> law = null;
        final StringBuilder tape = new StringBuilder();
        final Slot[] slots = {new Slot(), new Slot(), new Slot(), new Slot(), new Slot(), new Slot()};
        final ArrayDeque<int[]> undo = new ArrayDeque<>(), redo = new ArrayDeque<>();
        int[] led = new int[5], imageLed = null;
        List<Boolean> imageIn = null;
        final List<Integer> ran = new ArrayList<>();
        final List<Moment> bodies = new ArrayList<>();
        static final Class<?>[] KINDS = {Moment.class, Feint.class, Touch.class, Hold.class, Chain.class, Corner.class,
            Empty.class, Last.class};
        static final int[] LOW = {0, 1, 0, 0, 1, 0, 0, 0, 1, 0, 0, 0, 0, 0};
        static final int[] HIGH = {8, 8, 9, 1, 60, 3, 40, 8, 8, 12, 12, 12, 12, 12};

        int defender(int rc, int strong) {
            if (rc < 0 || rc / 10 < 1 || rc / 10 > 8 || rc % 10 > 8 || strong < 0 || strong > 9) {
                return BAD;
            }
            if (all.size() == 7) {
                return FULL;
            }
            all.add(new Defender(rc % 10, rc / 10, strong));
            return all.size() - 1;
        }

        int defenders(int shelf, int i, int n) {
            if (shelf < 0 || shelf > 5 || n < 1 || n > 7) {
                return BAD;
            }
            if (slots[shelf].sort == -2) {
                return 0;
            }
            if (slots[shelf].sort != 0) {
                return -12;
            }
            int came = 0;
            long[] row = slots[shelf].row;
            for (long at = i; came < n; at += 3) {
                if (i < 0 || at + 3 > row.length) {
                    break;
                }
                long c = row[(int) at], r = row[(int) at + 1], s = row[(int) at + 2];
                if (c < 0 || c > 8 || r < 1 || r > 8 || s < 0 || s > 9 || all.size() == 7) {
                    break;
                }
                all.add(new Defender((int) c, (int) r, (int) s));
                came++;
            }
            return came;
        }

        boolean known(int number, int what) {
            return what >= 0 && what <= 13 && (what < 4 ? number >= 0 && number < all.size() : number == 0);
        }

        void set(int number, int what, int v) {
            switch (what) {
                case 0 -> all.get(number).column = v;
                case 1 -> all.get(number).row = v;
                case 2 -> all.get(number).strong = v;
                case 3 -> all.get(number).in = v == 1;
                default -> num[what] = v;
            }
        }

        int of(int number, int what) {
            if (!known(number, what)) {
                return BAD;
            }
            return switch (what) {
                case 0 -> all.get(number).column;
                case 1 -> all.get(number).row;
                case 2 -> all.get(number).strong;
                case 3 -> all.get(number).in ? 1 : 0;
                default -> num[what];
            };
        }

        int mend(int number, int what, int v) {
            if (!known(number, what) || v < LOW[what] || v > HIGH[what]) {
                return BAD;
            }
            int was = of(number, what);
            if (was != v) {
                set(number, what, v);
                undo.addLast(new int[] {number, what, was, v});
                redo.clear();
                if (undo.size() > 40) {
                    undo.removeFirst();
                }
            }
            return was;
        }

        int feed(int letter) {
            if (letter < 0 || letter > 255) {
                return BAD;
            }
            if (tape.length() == 120) {
                return FULL;
            }
            tape.append((char) letter);
            return tape.length();
        }

        int law() {
            String text = tape.toString();
            tape.setLength(0);
            try {
                law = new Parser(text).lines();
                return 1;
            } catch (Fault fault) {
                return -100 - fault.place;
            }
        }

        boolean inside(int d) {
            return d >= 0 && d < all.size() && all.get(d).in;
        }

        int does(int d, int rc, int b) {
            if (!inside(d) || rc < 0 || rc > 88 || rc % 10 > 8 || b < 0 || b > 99) {
                return BAD;
            }
            Raid raid = new Raid(this);
            raid.r = rc / 10;
            raid.c = rc % 10;
            return raid.does(raid.all.get(d), b);
        }

        int refused(int shelf) {
            if (shelf < 0 || shelf > 5) {
                return BAD;
            }
            return slots[shelf].sort == -2 ? -11 : slots[shelf].sort == 0 ? 0 : -12;
        }

        Mover moves(int shelf) {
            long[] row = slots[shelf].row;
            return (s, deep) -> s < row.length && row[s] >= 0 && row[s] <= 4 ? (int) row[s] : 0;
        }

        Raid think(int shelf) {
            return new Raid(this).play(moves(shelf), 60);
        }

        int raid(int shelf, int what) {
            if (what < 0 || what > 6) {
                return BAD;
            }
            if (refused(shelf) != 0) {
                return refused(shelf);
            }
            Raid r = think(shelf);
            return new int[] {r.end, r.seconds, r.points(), r.theirs(), r.bits(), r.deepest, r.holds}[what];
        }

        int where(int shelf, int n, int who) {
            if (n < 0 || n > 60 || who < -1 || who >= all.size()) {
                return BAD;
            }
            if (refused(shelf) != 0) {
                return refused(shelf);
            }
            Raid r = new Raid(this).play(moves(shelf), n);
            return who < 0 ? 10 * r.r + r.c : 10 * r.all.get(who).row + r.all.get(who).column;
        }

        Raid then(int[] moves) {
            return new Raid(this).play((s, deep) -> s < moves.length ? moves[s] : 2, 60);
        }

        static int[] digits(int code, int n) {
            int[] moves = new int[n];
            for (int i = n - 1; i >= 0; i--) {
                moves[i] = code % 5;
                code /= 5;
            }
            return moves;
        }

        int best(int n, int k) {
            if (n < 1 || n > 5 || k < -1) {
                return VOID;
            }
            if (k >= n) {
                return NOT;
            }
            int most = Integer.MIN_VALUE;
            int[] found = null;
            for (int code = 0; code < Math.pow(5, n); code++) {
                Raid r = then(digits(code, n));
                if (r.points() - r.theirs() > most) {
                    most = r.points() - r.theirs();
                    found = digits(code, n);
                }
            }
            return k < 0 ? most : found[k];
        }

        int touch(int d, int k) {
            if (!inside(d) || k < -1) {
                return BAD;
            }
            for (int n = 1; n <= 5; n++) {
                for (int code = 0; code < Math.pow(5, n); code++) {
                    Raid r = then(digits(code, n));
                    if (r.end == 1 && r.touched.contains(d)) {
                        return k < 0 ? n : k >= n ? NOT : digits(code, n)[k];
                    }
                }
            }
            return NOT;
        }

        int needs(int shelf) {
            if (refused(shelf) != 0) {
                return refused(shelf);
            }
            for (int b = 1; b <= 60; b++) {
                Raid r = new Raid(this);
                r.num[4] = b;
                if (r.play(moves(shelf), 60).end == 1) {
                    return b;
                }
            }
            return NOT;
        }

        int spared(int shelf) {
            if (refused(shelf) != 0) {
                return refused(shelf);
            }
            int bits = 0;
            for (int i = 0; i < all.size(); i++) {
                Raid r = new Raid(this);
                r.all.get(i).in = false;
                if (think(shelf).end == 2 && r.play(moves(shelf), 60).end != 2) {
                    bits |= 1 << i;
                }
            }
            return bits;
        }

        int stand(int shelf, int d, int what) {
            if (refused(shelf) != 0 || !inside(d) || what < 0 || what > 1) {
                return VOID;
            }
            int least = Integer.MAX_VALUE, cell = 0;
            for (int rc = 10; rc <= 88; rc++) {
                if (rc % 10 < 9) {
                    Raid r = new Raid(this);
                    r.all.get(d).row = rc / 10;
                    r.all.get(d).column = rc % 10;
                    r.play(moves(shelf), 60);
                    if (r.points() - r.theirs() < least) {
                        least = r.points() - r.theirs();
                        cell = rc;
                    }
                }
            }
            return what == 0 ? cell : least;
        }

        int mightHe(int shelf) {
            if (refused(shelf) != 0) {
                return refused(shelf);
            }
            for (int m = 0; m <= 40; m++) {
                Raid r = new Raid(this);
                r.num[6] = m;
                if (r.play(moves(shelf), 60).end != 2) {
                    return m;
                }
            }
            return NOT;
        }

        int line(int what) {
            int corners = 0, alone = 0, chain = 0;
            for (int i = 0; i < all.size(); i++) {
                if (!inside(i)) {
                    continue;
                }
                corners |= all.get(i).column % 8 == 0 ? 1 << i : 0;
                Set<Integer> group = new HashSet<>();
                join(i, group);
                alone |= group.size() == 1 ? 1 << i : 0;
                chain = Math.max(chain, group.size());
            }
            return what == 0 ? corners : what == 1 ? alone : what == 2 ? chain : BAD;
        }

        void join(int i, Set<Integer> group) {
            if (group.add(i)) {
                for (int j = 0; j < all.size(); j++) {
                    if (inside(j) && all.get(j).far(all.get(i).column, all.get(i).row) <= 1) {
                        join(j, group);
                    }
                }
            }
        }

        /** Ours to raid with n left; e -1: no third raids. Answers {likely, which}; memo by n, v, e. */
        int[] ours(int n, int v, int e, int[][][][] memo) {
            if (n == 0) {
                return new int[] {v > 0 ? 1000000 : v == 0 ? 500000 : 0, 0};
            }
            if (memo[n][v + 100][e + 1] == null) {
                int up = theirs(n, v + 1, e < 0 ? e : 0, memo);
                int down = theirs(n, v - 1, e < 0 ? e : 0, memo);
                int empty = e == 2 ? down : theirs(n, v, e < 0 ? e : e + 1, memo);
                int deep = one(num[9], num[10], up, down, empty);
                int brief = one(num[11], num[12], up, down, empty);
                memo[n][v + 100][e + 1] = new int[] {Math.max(deep, brief), deep > brief ? 1 : 0};
            }
            return memo[n][v + 100][e + 1];
        }

        static int one(int brings, int loses, int up, int down, int empty) {
            int l = Math.min(loses, 12 - brings);
            return (brings * up + l * down + (12 - brings - l) * empty) / 12;
        }

        int theirs(int n, int v, int e, int[][][][] memo) {
            int t = num[13];
            return (t * ours(n - 1, v - 1, e, memo)[0] + (12 - t) * ours(n - 1, v, e, memo)[0]) / 12;
        }

        int left(int n, int lead, int what) {
            if (n < 0 || n > 20 || lead < -30 || lead > 30 || what < 0 || what > 1) {
                return BAD;
            }
            return ours(n, lead, -1, new int[21][200][4][])[what];
        }

        int third(int n, int lead, int e, int what) {
            if (n < 0 || n > 20 || lead < -30 || lead > 30 || what < 0 || what > 1 || e < 0 || e > 2) {
                return BAD;
            }
            return ours(n, lead, e, new int[21][200][4][])[what];
        }

        int sheet(int shelf, int sizes, Team[] teams) {
            for (int t = 0; t < 2; t++) {
                teams[t] = new Team();
                for (int i = 0; i < (t == 0 ? sizes / 10 : sizes % 10); i++) {
                    teams[t].in.add(i);
                }
            }
            long[] row = slots[shelf].row;
            for (int i = 0; i < row.length; i++) {
                Team us = teams[i % 2], them = teams[1 - i % 2];
                if (row[i] < 0 || row[i] > 8 || us.in.isEmpty() || row[i] < 8 && row[i] > them.in.size()) {
                    return i;
                }
                if (row[i] == 8) {
                    us.out.addLast(us.in.pollFirst());
                    them.points++;
                    if (!them.out.isEmpty()) {
                        them.in.add(them.out.pollFirst());
                    }
                    continue;
                }
                us.points += row[i];
                for (int j = 0; j < row[i]; j++) {
                    them.out.addLast(them.in.pollFirst());
                }
                for (int j = 0; j < row[i] && !us.out.isEmpty(); j++) {
                    us.in.add(us.out.pollFirst());
                }
            }
            return NOT;
        }

        static boolean sized(int sizes) {
            return sizes / 10 >= 1 && sizes / 10 <= 7 && sizes % 10 >= 1 && sizes % 10 <= 7;
        }

        int judge(int shelf, int sizes) {
            if (!sized(sizes)) {
                return BAD;
            }
            return refused(shelf) != 0 ? refused(shelf) : sheet(shelf, sizes, new Team[2]);
        }

        int bench(int shelf, int sizes, int team, int what) {
            if (!sized(sizes) || team < 0 || team > 1 || what < 0 || what > 2) {
                return BAD;
            }
            if (refused(shelf) != 0) {
                return refused(shelf);
            }
            Team[] teams = new Team[2];
            sheet(shelf, sizes, teams);
            int bits = 0;
            for (int i : teams[team].in) {
                bits |= 1 << i;
            }
            Integer first = teams[team].out.peekFirst();
            return what == 0 ? bits : what == 1 ? (first == null ? NOT : first) : teams[team].points;
        }

        int drawn(int seed, int n, int what) {
            if (n < 1 || n > 50 || what < 0 || what > 1) {
                return BAD;
            }
            int[] z = {seed};
            int points = 0, caught = 0;
            for (int i = 0; i < n; i++) {
                Raid r = new Raid(this).play((s, deep) -> {
                    z[0] = z[0] * 1103515245 + 12345;
                    return deep < num[8] || (z[0] >>> 16 & 1) == 0 ? (z[0] >>> 8) % 5 : 2;
                }, 60);
                points += r.points();
                caught += r.end == 2 ? 1 : 0;
            }
            return what == 0 ? points : caught;
        }

        int go(int shelf) {
            if (refused(shelf) != 0) {
                return refused(shelf);
            }
            Raid r = think(shelf);
            int[] more = {1, r.points(), r.theirs(), r.seconds, r.end == 2 ? 1 : 0};
            for (int i = 0; i < 5; i++) {
                led[i] += more[i];
            }
            if (r.end == 1) {
                for (int i : r.touched) {
                    all.get(i).in = false;
                }
            }
            int come = r.theirs();
            for (Defender d : all) {
                if (come > 0 && !d.in) {
                    d.in = true;
                    come--;
                }
            }
            return r.end;
        }

        int allIn() {
            int were = 0;
            for (Defender d : all) {
                were += d.in ? 0 : 1;
                d.in = true;
            }
            return were;
        }

        int led(int what) {
            return what < 0 || what > 4 ? BAD : led[what];
        }

        int image() {
            imageLed = led.clone();
            imageIn = new ArrayList<>();
            for (Defender d : all) {
                imageIn.add(d.in);
            }
            return led[0];
        }

        int back() {
            if (imageLed == null) {
                return STATE;
            }
            led = imageLed.clone();
            for (int i = 0; i < imageIn.size(); i++) {
                all.get(i).in = imageIn.get(i);
            }
            return led[0];
        }

        int undo() {
            if (undo.isEmpty()) {
                return STATE;
            }
            int[] c = undo.pollLast();
            set(c[0], c[1], c[2]);
            redo.addLast(c);
            return undo.size();
        }

        int redo() {
            if (redo.isEmpty()) {
                return STATE;
            }
            int[] c = redo.pollLast();
            set(c[0], c[1], c[3]);
            undo.addLast(c);
            return redo.size();
        }

        int body(int kind) {
            if (kind < 0 || kind > 7) {
                return BAD;
            }
            if (bodies.size() == 50) {
                return FULL;
            }
            int n = bodies.size();
            bodies.add(switch (kind) {
                case 0 -> new Moment(n, ran);
                case 1 -> new Feint(n, ran);
                case 2 -> new Touch(n, ran);
                case 3 -> new Hold(n, ran);
                case 4 -> new Chain(n, ran);
                case 5 -> new Corner(n, ran);
                case 6 -> new Empty(n, ran);
                default -> new Last(n, ran);
            });
            return n;
        }

        int act(int body, int act, int x) {
            ran.clear();
            if (body < 0 || body >= bodies.size() || act < 0 || act > 3) {
                return 0;
            }
            Moment m = bodies.get(body);
            return act == 0 ? m.goes(x) : act == 1 ? m.touches(x) : act == 2 ? m.holds(x) : m.tells(x);
        }

        int trace(int i) {
            return i < 0 || i >= 24 || i >= ran.size() ? BAD : ran.get(i);
        }

        int keep(int shelf, int body) {
            if (shelf < 0 || shelf > 5 || body < -1 || body >= bodies.size()) {
                return BAD;
            }
            slots[shelf] = new Slot();
            slots[shelf].sort = body < 0 ? -2 : -1;
            slots[shelf].body = body;
            return 1;
        }

        int row(int shelf, int sort, int n) {
            if (shelf < 0 || shelf > 5 || sort < 0 || sort > 4 || n > 60) {
                return BAD;
            }
            if (n < 0) {
                return -14;
            }
            slots[shelf] = new Slot();
            slots[shelf].sort = sort;
            slots[shelf].row = new long[n];
            return 1;
        }

        int place(int shelf, int i) {
            if (shelf < 0 || shelf > 5) {
                return BAD;
            }
            if (slots[shelf].sort < 0) {
                return slots[shelf].sort == -2 ? -11 : -12;
            }
            return i < 0 || i >= slots[shelf].row.length ? -13 : 1;
        }

        int put(int shelf, int i, long v) {
            int p = place(shelf, i);
            if (p == 1) {
                slots[shelf].row[i] = switch (slots[shelf].sort) {
                    case 0 -> (byte) v;
                    case 1 -> (short) v;
                    case 2 -> (int) v;
                    case 3 -> v;
                    default -> v == 0 ? 0 : 1;
                };
            }
            return p;
        }

        long element(int shelf, int i) {
            return place(shelf, i) == 1 ? slots[shelf].row[i] : Long.MIN_VALUE;
        }

        int shift(int shelf, int i, int other, int j, int n) {
            if (shelf < 0 || shelf > 5 || other < 0 || other > 5) {
                return BAD;
            }
            Slot a = slots[shelf], b = slots[other];
            if (a.sort == -2 || b.sort == -2) {
                return -11;
            }
            if (a.sort < 0 || a.sort != b.sort) {
                return -12;
            }
            if (n < 0 || i < 0 || j < 0 || (long) i + n > a.row.length || (long) j + n > b.row.length) {
                return -13;
            }
            long[] were = a.row.clone();
            for (int m = 0; m < n; m++) {
                b.row[j + m] = were[i + m];
            }
            return n;
        }

        int taken(int shelf, int k) {
            if (shelf < 0 || shelf > 5 || k < 0 || k > 7) {
                return BAD;
            }
            if (slots[shelf].sort != -1) {
                return slots[shelf].sort == -2 ? -11 : -12;
            }
            Moment m = bodies.get(slots[shelf].body);
            if (!KINDS[k].isInstance(m)) {
                return -12;
            }
            return List.of(KINDS).indexOf(m.getClass());
        }

        int count(int what) {
            return switch (what) {
                case 0 -> all.size();
                case 1 -> (int) all.stream().filter(d -> d.in).count();
                case 2 -> tape.length();
                case 3 -> undo.size();
                case 4 -> bodies.size();
                case 5 -> ran.size();
                default -> BAD;
            };
        }
    }

    /** One object and one model under the same calls. */
    private static final class Run {
        private final int number;
        private final Random random;
        private final OnOneBreath x = new OnOneBreath();
        private final Model m = new Model();
        private int calls = 0;

        Run(int number) {
            this.number = number;
            this.random = new Random(number * 7919L + 13);
        }

        int play() {
            int wishes = random.nextInt(8);
            for (int i = 0; i < wishes; i++) {
                int rc = 10 * (1 + random.nextInt(8)) + random.nextInt(9), s = random.nextInt(10);
                due("defender", x.defender(rc, s), m.defender(rc, s), rc, s);
            }
            if (random.nextInt(3) > 0) {
                feedText();
            }
            tellRaid(random.nextInt(6));
            // One step more asks 126 calls at most, and behind its 512th call an object promises nothing.
            while (calls < 386 && wrong < 20) {
                oneOf(random.nextInt(46));
            }
            return calls;
        }

        private void due(String name, long got, long want, long... args) {
            calls++;
            if (got != want) {
                wrong++;
                System.out.println("run " + number + ", call " + calls + ": " + name
                        + java.util.Arrays.toString(args) + " answered " + got + ", due is " + want);
            }
        }

        /** Mostly from low to high, at times just beyond or far away. */
        private int within(int low, int high) {
            int kind = random.nextInt(40);
            if (kind == 0) {
                return low - 1;
            }
            if (kind == 1) {
                return high + 1;
            }
            if (kind == 2) {
                int[] odd = {Integer.MIN_VALUE, Integer.MAX_VALUE, -1000, 1000, Integer.MIN_VALUE + 1, -14};
                return odd[random.nextInt(odd.length)];
            }
            return low + random.nextInt(high - low + 1);
        }

        private void tellRaid(int shelf) {
            int n = random.nextInt(4) == 0 ? random.nextInt(61) : random.nextInt(20);
            due("row", x.row(shelf, 0, n), m.row(shelf, 0, n), shelf, 0, n);
            int deep = 1 + random.nextInt(8);
            for (int i = 0; i < n && i < 40; i++) {
                long v = random.nextInt(4) == 0 ? random.nextInt(11) - 3 : i < deep ? 1 : random.nextInt(3) == 0 ? random.nextInt(5) : 2;
                due("put", x.put(shelf, i, v), m.put(shelf, i, v), shelf, i, v);
            }
        }

        private String expression(int depth) {
            int kind = depth <= 0 ? random.nextInt(3) : random.nextInt(12);
            String names = "drbsnc";
            switch (kind) {
                case 0:
                    return String.valueOf(random.nextInt(10));
                case 1, 2, 3, 4:
                    return String.valueOf(names.charAt(random.nextInt(6)));
                case 5:
                    return "!" + expression(0);
                case 6:
                    return "-" + expression(0);
                case 7:
                    return "(" + expression(depth - 1) + ")";
                case 8:
                    return String.valueOf(random.nextInt(10000));
                default:
                    return expression(depth - 1) + "|&<=>+-*/%".charAt(random.nextInt(10)) + expression(depth - 1);
            }
        }

        private void feedText() {
            StringBuilder text = new StringBuilder();
            int lines = 1 + random.nextInt(3);
            for (int i = 0; i < lines; i++) {
                text.append(i > 0 ? ";" : "").append(expression(3));
                if (random.nextInt(3) > 0) {
                    text.append('?').append(random.nextInt(2) == 0 ? String.valueOf(random.nextInt(4)) : expression(2));
                }
            }
            if (random.nextInt(3) == 0) {
                spoil(text);
            }
            for (int i = 0; i < text.length() && i < 125; i++) {
                due("feed", x.feed(text.charAt(i)), m.feed(text.charAt(i)), text.charAt(i));
            }
            due("law " + text, x.law(), m.law());
        }

        private void spoil(StringBuilder text) {
            String signs = "drbsnc0123456789|&<=>+-*/%!()?; x";
            for (int i = random.nextInt(2); i >= 0; i--) {
                int at = random.nextInt(text.length() + 1);
                int kind = random.nextInt(4);
                if (kind == 0) {
                    text.setLength(at);
                } else if (kind == 1 && at < text.length()) {
                    text.deleteCharAt(at);
                } else if (kind == 2) {
                    text.insert(at, "((((((!!!---".substring(random.nextInt(12)));
                } else {
                    text.insert(at, signs.charAt(random.nextInt(signs.length())));
                }
            }
        }

        private void oneOf(int call) {
            int shelf = within(0, 5), d = within(0, 6);
            switch (call) {
                case 0 -> {
                    int rc = within(0, 99), s = within(0, 9);
                    due("defender", x.defender(rc, s), m.defender(rc, s), rc, s);
                }
                case 1 -> {
                    int i = within(0, 20), n = within(1, 7);
                    due("defenders", x.defenders(shelf, i, n), m.defenders(shelf, i, n), shelf, i, n);
                }
                case 2, 3, 4, 5 -> mend();
                case 6 -> {
                    int w = within(0, 13), n = w < 4 ? d : within(0, 0);
                    due("of", x.of(n, w), m.of(n, w), n, w);
                }
                case 7 -> {
                    if (random.nextInt(8) == 0) {
                        feedText();
                    }
                }
                case 8 -> {
                    int rc = within(0, 88), b = within(0, 99);
                    due("does", x.does(d, rc, b), m.does(d, rc, b), d, rc, b);
                }
                case 9 -> tellRaid(random.nextInt(6));
                case 10, 11, 12, 13 -> {
                    int w = within(0, 6);
                    due("raid", x.raid(shelf, w), m.raid(shelf, w), shelf, w);
                }
                case 14, 15 -> {
                    int n = within(0, 60), w = within(-1, 6);
                    due("where", x.where(shelf, n, w), m.where(shelf, n, w), shelf, n, w);
                }
                case 16, 17 -> searches(d);
                case 18 -> due("needs", x.needs(shelf), m.needs(shelf), shelf);
                case 19, 20 -> due("spared", x.spared(shelf), m.spared(shelf), shelf);
                case 21 -> {
                    int w = within(0, 1);
                    due("stand", x.stand(shelf, d, w), m.stand(shelf, d, w), shelf, d, w);
                }
                case 22, 23 -> due("mightHe", x.mightHe(shelf), m.mightHe(shelf), shelf);
                case 24 -> {
                    int w = within(0, 2);
                    due("line", x.line(w), m.line(w), w);
                }
                case 25 -> {
                    int n = within(0, 20), v = within(-30, 30), w = within(0, 1);
                    due("left", x.left(n, v, w), m.left(n, v, w), n, v, w);
                    v = within(-4, 4);
                    due("left", x.left(n, v, w), m.left(n, v, w), n, v, w);
                }
                case 26 -> {
                    int n = within(0, 20), v = within(-5, 5), e = within(0, 2), w = within(0, 1);
                    due("third", x.third(n, v, e, w), m.third(n, v, e, w), n, v, e, w);
                }
                case 27, 28 -> sheets(shelf);
                case 29 -> {
                    int seed = random.nextInt(), n = within(1, 50), w = within(0, 1);
                    due("drawn", x.drawn(seed, n, w), m.drawn(seed, n, w), seed, n, w);
                }
                case 30, 31 -> due("go", x.go(shelf), m.go(shelf), shelf);
                default -> oneOfTheRest(call, shelf);
            }
        }

        private void mend() {
            int w = within(0, 13), n = w < 4 ? within(0, 6) : within(0, 0);
            int v = w < 0 || w > 13 ? 0 : within(Model.LOW[w], Model.HIGH[w]);
            due("mend", x.mend(n, w, v), m.mend(n, w, v), n, w, v);
        }

        private void searches(int d) {
            int n = random.nextInt(12) == 0 ? within(1, 5) : within(1, 3), k = within(-1, 4);
            due("best", x.best(n, k), m.best(n, k), n, k);
            if (random.nextInt(4) == 0) {
                due("touch", x.touch(d, k), m.touch(d, k), d, k);
            }
            int again = within(-1, 2);
            due("best", x.best(n, again), m.best(n, again), n, again);
        }

        private void sheets(int shelf) {
            int sizes = within(11, 77), t = within(0, 1), w = within(0, 2);
            due("judge", x.judge(shelf, sizes), m.judge(shelf, sizes), shelf, sizes);
            due("bench", x.bench(shelf, sizes, t, w), m.bench(shelf, sizes, t, w), shelf, sizes, t, w);
        }

        private void oneOfTheRest(int call, int shelf) {
            switch (call) {
                case 32 -> {
                    if (random.nextInt(2) == 0) {
                        due("allIn", x.allIn(), m.allIn());
                    }
                }
                case 33 -> {
                    int w = within(0, 4);
                    due("led", x.led(w), m.led(w), w);
                }
                case 34 -> {
                    if (random.nextInt(3) == 0) {
                        due("image", x.image(), m.image());
                    } else {
                        due("back", x.back(), m.back());
                    }
                }
                case 35, 36 -> due("undo", x.undo(), m.undo());
                case 37 -> due("redo", x.redo(), m.redo());
                case 38 -> {
                    int k = within(0, 7);
                    due("body", x.body(k), m.body(k), k);
                }
                case 39 -> {
                    int b = within(0, 10), a = within(0, 3), v = random.nextInt();
                    due("act", x.act(b, a, v), m.act(b, a, v), b, a, v);
                    for (int i = -1; i < 12; i++) {
                        due("trace", x.trace(i), m.trace(i), i);
                    }
                }
                case 40 -> {
                    int b = within(-1, 8);
                    due("keep", x.keep(shelf, b), m.keep(shelf, b), shelf, b);
                }
                case 41 -> {
                    int s = within(0, 4), n = within(0, 60);
                    due("row", x.row(shelf, s, n), m.row(shelf, s, n), shelf, s, n);
                }
                case 42 -> {
                    int i = within(0, 20);
                    long v = random.nextInt(3) == 0 ? random.nextLong() : random.nextInt(9);
                    due("put", x.put(shelf, i, v), m.put(shelf, i, v), shelf, i, v);
                    due("element", x.element(shelf, i), m.element(shelf, i), shelf, i);
                }
                case 43 -> {
                    int i = within(0, 10), o = random.nextBoolean() ? shelf : within(0, 5), j = within(0, 10), n = within(0, 12);
                    due("shift", x.shift(shelf, i, o, j, n), m.shift(shelf, i, o, j, n), shelf, i, o, j, n);
                    due("element", x.element(o, j), m.element(o, j), o, j);
                }
                case 44 -> {
                    int k = within(0, 7);
                    due("taken", x.taken(shelf, k), m.taken(shelf, k), shelf, k);
                }
                default -> {
                    int w = within(0, 5);
                    due("count", x.count(w), m.count(w), w);
                }
            }
        }
    }
}
