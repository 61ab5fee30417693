import java.math.BigInteger;
import java.util.ArrayDeque;
import java.util.ArrayList;
import java.util.Arrays;
import java.util.BitSet;
import java.util.Deque;
import java.util.HashMap;
import java.util.HashSet;
import java.util.List;
import java.util.Map;
import java.util.Set;
import java.util.regex.Matcher;
import java.util.regex.Pattern;

/** The document told a second time, as plainly as can be and with no thought of cost, to compare RoseWall with. */
final class Oracle {
    private static final int NONE = -1;

    interface Value { long of(Map<String, Long> scene); }

    static final class FaultException extends RuntimeException {
        private static final long serialVersionUID = 1L;
        final int kind;
        final int place;
        FaultException(int kind, int place) { this.kind = kind; this.place = place; }
    }

    static final class Told {
        int rows = 1, columns = 1, face, open = 5, lines, who = NONE, wall, temper;
        int[][] kinds = new int[3][3];
        List<Integer> patience = new ArrayList<>();
        Value turns, goes;
    }

    record State(int wall, int who, int temper, int nights) { }
    record Spot(int wall, int who) { }

    private String tape = "";
    private Told told = new Told();
    private State now = new State(0, NONE, 0, 0);
    private final Deque<State> past = new ArrayDeque<>();
    private final long[][] trays = new long[4][];
    private final int[] sorts = new int[4];
    private final Told[] imageRooms = new Told[2];
    private final State[] images = new State[2];
    private int faultKind, faultPlace = NONE;

    // ---- the text

    record Token(String text, int place) { }

    private static final class Reader {
        private static final Pattern NEXT = Pattern.compile("[ \n]*([a-z]+|[0-9]+|[;:+*()\\[\\]=<>-])", Pattern.DOTALL);
        private final List<Token> tokens = new ArrayList<>();
        private int at;
        private final Told told = new Told();
        private boolean turnsLaw;

        Reader(String text) {
            Matcher m = NEXT.matcher(text);
            int from = 0;
            while (m.find(from) && m.start() == from) {
                boolean bad = m.group(1).matches("[0-9]{4,}");
                tokens.add(new Token(bad ? "BAD" : m.group(1), m.start(1)));
                from = m.end();
                if (bad) {
                    return;
                }
            }
            int rest = from;
            while (rest < text.length() && " \n".indexOf(text.charAt(rest)) >= 0) {
                rest++;
            }
            tokens.add(rest == text.length() ? new Token("END", text.length()) : new Token("BAD", rest));
        }

        private String look() { return tokens.get(at).text(); }

        private FaultException fail(int kind) {
            return new FaultException(look().equals("BAD") ? 1 : kind, tokens.get(at).place());
        }

        private void expect(String text) {
            if (!look().equals(text)) {
                throw fail(2);
            }
            at++;
        }

        private boolean isNumber() { return look().matches("[0-9]+"); }

        private int number(int low, int high) {
            if (!isNumber()) {
                throw fail(2);
            }
            int n = Integer.parseInt(look());
            if (n < low || n > high) {
                throw fail(3);
            }
            at++;
            return n;
        }

        Told read() {
            expect("wall");
            told.rows = number(1, 3);
            told.columns = number(1, 3);
            expect(";");
            told.lines = 1;
            while (!look().equals("END")) {
                line();
                expect(";");
                told.lines++;
            }
            return told;
        }

        private void line() {
            String word = look();
            int roses = told.rows * told.columns;
            switch (word) {
                case "row" -> {
                    at++;
                    int row = number(0, told.rows - 1);
                    for (int i = 0; i < told.columns; i++) {
                        told.kinds[row][i] = number(0, 9);
                    }
                }
                case "tenant" -> {
                    if (told.patience.size() == 4) {
                        throw fail(4);
                    }
                    at++;
                    int patience = 9;
                    while (look().equals("patience")) {
                        at++;
                        patience = number(0, 9);
                    }
                    told.patience.add(patience);
                }
                case "in" -> { at++; told.who = number(0, told.patience.size() - 1); }
                case "turned" -> { at++; told.wall |= 1 << number(0, roses - 1); }
                case "face" -> {
                    at++;
                    int set = 1 << number(0, roses - 1);
                    while (isNumber()) {
                        set |= 1 << number(0, roses - 1);
                    }
                    told.face = set;
                }
                case "open" -> { at++; told.open = number(0, 10); }
                case "temper" -> { at++; told.temper = number(0, 9); }
                case "turns" -> { at++; expect(":"); turnsLaw = true; told.turns = truth(0); }
                case "goes" -> { at++; expect(":"); turnsLaw = false; told.goes = truth(0); }
                default -> throw fail(2);
            }
        }

        private Value truth(int within) {
            Value left = both(within);
            while (look().equals("or")) {
                at++;
                Value a = left, b = both(within);
                left = s -> a.of(s) == 1 || b.of(s) == 1 ? 1 : 0;
            }
            return left;
        }

        private Value both(int within) {
            Value left = unit(within);
            while (look().equals("and")) {
                at++;
                Value a = left, b = unit(within);
                left = s -> a.of(s) == 1 && b.of(s) == 1 ? 1 : 0;
            }
            return left;
        }

        private void deeper(int within) {
            if (within == 6) {
                throw fail(4);
            }
            at++;
        }

        private Value unit(int within) {
            if (look().equals("not")) {
                deeper(within);
                Value a = unit(within + 1);
                return s -> 1 - a.of(s);
            }
            if (look().equals("[")) {
                deeper(within);
                Value a = truth(within + 1);
                expect("]");
                return a;
            }
            Value a = sum(within);
            String sign = look();
            if (!sign.matches("[=<>]")) {
                throw fail(2);
            }
            at++;
            Value b = sum(within);
            return switch (sign) {
                case "=" -> s -> a.of(s) == b.of(s) ? 1 : 0;
                case "<" -> s -> a.of(s) < b.of(s) ? 1 : 0;
                default -> s -> a.of(s) > b.of(s) ? 1 : 0;
            };
        }

        private static long kept(long v) { return Math.max(-1000000L, Math.min(1000000L, v)); }

        private Value sum(int within) {
            Value left = term(within);
            while (look().equals("+") || look().equals("-")) {
                boolean plus = look().equals("+");
                at++;
                Value a = left, b = term(within);
                left = plus ? s -> kept(a.of(s) + b.of(s)) : s -> kept(a.of(s) - b.of(s));
            }
            return left;
        }

        private Value term(int within) {
            Value left = atom(within);
            while (look().equals("*")) {
                at++;
                Value a = left, b = atom(within);
                left = s -> kept(a.of(s) * b.of(s));
            }
            return left;
        }

        private Value atom(int within) {
            if (look().equals("(")) {
                deeper(within);
                Value a = sum(within + 1);
                expect(")");
                return a;
            }
            if (isNumber()) {
                long n = number(0, 999);
                return s -> n;
            }
            String word = look();
            String words = turnsLaw ? " light tenant cell kind near turned temper " : " light tenant all face patience ";
            if (!word.matches("[a-z]+") || !words.contains(" " + word + " ")) {
                throw fail(2);
            }
            at++;
            return s -> s.get(word);
        }
    }

    int feed(int a, int b, int c, int d, int e) {
        if (tape.length() > 880) {
            return -5;
        }
        for (int four : new int[] {a, b, c, d, e}) {
            tape += (char) (four >>> 24) + "" + (char) (four >>> 16 & 255) + (char) (four >>> 8 & 255) + (char) (four & 255);
        }
        return tape.length();
    }

    int room(int n) {
        if (n < 0 || n > tape.length()) {
            return -3;
        }
        String text = tape.substring(0, n);
        tape = "";
        try {
            told = new Reader(text).read();
        } catch (FaultException e) {
            faultKind = e.kind;
            faultPlace = e.place;
            return -30 - e.kind;
        }
        faultKind = 0;
        faultPlace = NONE;
        now = new State(told.wall, told.who, told.temper, 0);
        past.clear();
        return told.lines;
    }

    int fault(int what) { return what == 0 ? faultKind : what == 1 ? faultPlace : NONE; }

    // ---- a night

    private int roses() { return told.rows * told.columns; }
    private int full() { return (1 << roses()) - 1; }
    private boolean isWall(long w) { return w >= 0 && w <= full(); }
    private boolean isTenant(int t) { return t >= 0 && t < told.patience.size(); }
    private static boolean isBlind(int b) { return b == 0 || b == 1; }

    private int near(int wall, int c) {
        int sum = 0;
        for (int k = 0; k < roses(); k++) {
            int dy = Math.abs(k / told.columns - c / told.columns), dx = Math.abs(k % told.columns - c % told.columns);
            if (Math.max(dx, dy) == 1 && (wall >> k & 1) == 1) {
                sum++;
            }
        }
        return sum;
    }

    private boolean willTurn(int c, int wall, int who, int temper, int blind) {
        long near = near(wall, c);
        if (told.turns == null) {
            return near >= 1 && near <= 3;
        }
        Map<String, Long> s = new HashMap<>();
        s.put("light", (long) blind);
        s.put("tenant", who == NONE ? 9L : who);
        s.put("cell", (long) c);
        s.put("kind", (long) told.kinds[c / told.columns][c % told.columns]);
        s.put("near", near);
        s.put("turned", (long) (wall >> c & 1));
        s.put("temper", (long) temper);
        return told.turns.of(s) == 1;
    }

    private boolean wouldGo(int t, int wall, int blind) {
        long all = Integer.bitCount(wall);
        if (told.goes == null) {
            return all > told.patience.get(t);
        }
        Map<String, Long> s = new HashMap<>();
        s.put("light", (long) blind);
        s.put("tenant", (long) t);
        s.put("all", all);
        s.put("face", told.face != 0 && told.face == wall ? 1L : 0L);
        s.put("patience", (long) told.patience.get(t));
        return told.goes.of(s) == 1;
    }

    private Told memoRoom;
    private final Map<Long, Spot> memo = new HashMap<>();

    private Spot step(Spot from, int temper, int blind) {
        if (memoRoom != told) {
            memoRoom = told;
            memo.clear();
        }
        long key = ((from.wall() * 10L + from.who() + 1) * 10 + temper) * 2 + blind;
        Spot then = memo.get(key);
        if (then == null) {
            int wall = 0;
            for (int c = 0; c < roses(); c++) {
                wall |= willTurn(c, from.wall(), from.who(), temper, blind) ? 1 << c : 0;
            }
            int who = from.who() != NONE && wouldGo(from.who(), wall, blind) ? NONE : from.who();
            then = new Spot(wall, who);
            memo.put(key, then);
        }
        return then;
    }

    private Spot step(Spot from, int blind) { return step(from, now.temper(), blind); }
    private Spot here() { return new Spot(now.wall(), now.who()); }

    int rose(int c, int what) {
        if (c < 0 || c >= roses() || what < 0 || what > 4) {
            return -2;
        }
        return switch (what) {
            case 0 -> told.kinds[c / told.columns][c % told.columns];
            case 1 -> now.wall() >> c & 1;
            case 2 -> near(now.wall(), c);
            default -> willTurn(c, now.wall(), now.who(), now.temper(), what - 3) ? 1 : 0;
        };
    }

    int tenant(int t, int what) {
        if (!isTenant(t) || what < 0 || what > 3) {
            return -2;
        }
        return switch (what) {
            case 0 -> told.patience.get(t);
            case 1 -> now.who() == t ? 1 : 0;
            default -> wouldGo(t, now.wall(), what - 2) ? 1 : 0;
        };
    }

    // ---- deeds

    private int why;
    private State judged(State s, long v) {
        why = 0;
        if (v == 0 || v == 1) {
            Spot then = step(new Spot(s.wall(), s.who()), s.temper(), (int) v);
            return new State(then.wall(), then.who(), s.temper(), s.nights() + 1);
        }
        if (v >= 10 && v <= 19 && isTenant((int) v - 10)) {
            if (s.who() == NONE) {
                return new State(s.wall(), (int) v - 10, s.temper(), s.nights());
            }
            why = 2;
            return null;
        }
        if (v >= 20 && v <= 29 && v - 20 < roses()) {
            return new State(s.wall() ^ 1 << (int) v - 20, s.who(), s.temper(), s.nights());
        }
        if (v >= 30 && v <= 39) {
            return new State(s.wall(), s.who(), (int) v - 30, s.nights());
        }
        why = 1;
        return null;
    }

    private void remember(State s) {
        past.push(s);
        if (past.size() > 10) {
            past.removeLast();
        }
    }

    private int alone(boolean valid, long v) {
        State then = valid ? judged(now, v) : null;
        if (then == null) {
            return valid && why == 2 ? -12 : -11;
        }
        remember(now);
        now = then;
        return 0;
    }

    int night(int b) {
        int r = alone(isBlind(b), b);
        return r < 0 ? r : now.wall();
    }

    int nights(int n, int b) {
        if (n < 1 || n > 99) {
            return -3;
        }
        if (!isBlind(b)) {
            return -11;
        }
        remember(now);
        int answer = n;
        boolean open = now.who() != NONE;
        for (int i = 1; i <= n; i++) {
            now = judged(now, b);
            if (open && now.who() == NONE) {
                open = false;
                answer = i;
            }
        }
        return answer;
    }

    int let(int t) {
        int r = alone(t >= 0 && t <= 9, 10L + t);
        return r < 0 ? r : Integer.bitCount(now.wall());
    }

    int turn(int c) {
        int r = alone(c >= 0 && c <= 9, 20L + c);
        return r < 0 ? r : now.wall() >> c & 1;
    }

    int temper(int n) {
        int was = now.temper();
        int r = alone(n >= 0 && n <= 9, 30L + n);
        return r < 0 ? r : was;
    }

    int undo(int n) {
        if (n < 1 || n > past.size()) {
            return -3;
        }
        for (int i = 0; i < n; i++) {
            now = past.pop();
        }
        return past.size();
    }

    private boolean isTray(int tray) { return tray >= 0 && tray < 4; }

    int judge(int tray, int what) {
        if (!isTray(tray) || what < 0 || what > 3) {
            return -2;
        }
        if (trays[tray] == null) {
            return -6;
        }
        State s = now;
        int place = NONE;
        int reason = 0;
        for (int i = 0; i < trays[tray].length && place == NONE; i++) {
            State then = judged(s, trays[tray][i]);
            if (then == null) {
                place = i;
                reason = why;
            } else {
                s = then;
            }
        }
        return what == 0 ? place : what == 1 ? reason : what == 2 ? s.wall() : s.who();
    }

    int perform(int tray) {
        if (!isTray(tray)) {
            return -2;
        }
        if (trays[tray] == null) {
            return -6;
        }
        State before = now;
        int done = 0;
        for (long v : trays[tray]) {
            State then = judged(now, v);
            if (then == null) {
                break;
            }
            now = then;
            done++;
        }
        if (done > 0) {
            remember(before);
        }
        return done;
    }

    private int x;
    private int draw() {
        x = (int) (1103515245L * x + 12345L);
        return x >>> 16;
    }

    int season(int seed, int times) {
        if (times < 1 || times > 40) {
            return -3;
        }
        State before = now;
        x = seed;
        int done = 0;
        for (int i = 0; i < times; i++) {
            int sort = draw() % 6;
            int second = draw();
            long v = sort < 3 ? second % 2 : sort == 3 ? 10 + second % 4 : sort == 4 ? 20 + second % 9 : 30 + second % 10;
            State then = judged(now, v);
            if (then != null) {
                now = then;
                done++;
            }
        }
        if (done > 0) {
            remember(before);
        }
        return done;
    }

    // ---- how it goes on

    int lies(int n, int b) {
        if (n < 0 || n > 99999 || !isBlind(b)) {
            return -3;
        }
        Spot s = here();
        for (int i = 0; i < n; i++) {
            s = step(s, b);
        }
        return s.wall();
    }

    int round(int b, int what) {
        if (what < 0 || what > 3) {
            return -2;
        }
        if (!isBlind(b)) {
            return -3;
        }
        List<Spot> seen = new ArrayList<>();
        Spot s = here();
        while (!seen.contains(s)) {
            seen.add(s);
            s = step(s, b);
        }
        int tail = seen.indexOf(s);
        if (what == 0) {
            return tail;
        }
        if (what == 1) {
            return seen.size() - tail;
        }
        if (what == 2) {
            return seen.subList(tail, seen.size()).stream().mapToInt(p -> Integer.bitCount(p.wall())).max().getAsInt();
        }
        for (int i = 0; now.who() != NONE && i < seen.size(); i++) {
            if (seen.get(i).who() == NONE) {
                return i;
            }
        }
        return NONE;
    }

    // ---- who is in: sets of walls (with the tenant in), by how many nights are left

    private static final int LONG = 600;

    /** canStay.get(k): the walls from which some row of k nights leaves the tenant in. */
    private List<BitSet> canStay() {
        List<BitSet> sets = new ArrayList<>();
        BitSet all = new BitSet();
        all.set(0, full() + 1);
        sets.add(all);
        for (int k = 1; k <= LONG; k++) {
            BitSet set = new BitSet();
            for (int w = 0; w <= full(); w++) {
                for (int b = 0; b < 2; b++) {
                    Spot s = step(new Spot(w, now.who()), b);
                    if (s.who() != NONE && sets.get(k - 1).get(s.wall())) {
                        set.set(w);
                    }
                }
            }
            sets.add(set);
            if (set.equals(sets.get(k - 1))) {
                break;
            }
        }
        return sets;
    }

    int stays() {
        if (now.who() == NONE) {
            return -5;
        }
        List<BitSet> sets = canStay();
        if (sets.get(sets.size() - 1).get(now.wall())) {
            return NONE;
        }
        int most = 0;
        while (sets.get(most + 1).get(now.wall())) {
            most++;
        }
        return most;
    }

    int stayBy(int i) {
        if (i < 0 || i > 99) {
            return -3;
        }
        int most = stays();
        if (most == -5) {
            return -5;
        }
        if (most != NONE && i >= most) {
            return NONE;
        }
        List<BitSet> sets = canStay();
        Spot s = here();
        for (int k = 0; ; k++) {
            BitSet due = most == NONE ? sets.get(sets.size() - 1) : sets.get(most - k - 1);
            Spot shut = step(s, 0);
            int b = shut.who() != NONE && due.get(shut.wall()) ? 0 : 1;
            if (k == i) {
                return b;
            }
            s = step(s, b);
        }
    }

    /** The first of the shortest rows to a spot as told; null if there is none. */
    private List<Integer> shortest(java.util.function.Predicate<Spot> goal) {
        Map<Spot, List<Integer>> first = new HashMap<>();
        first.put(here(), List.of());
        List<Spot> level = List.of(here());
        while (!level.isEmpty()) {
            List<Integer> best = null;
            for (Spot s : level) {
                if (goal.test(s) && (best == null || less(first.get(s), best))) {
                    best = first.get(s);
                }
            }
            if (best != null) {
                return best;
            }
            Map<Spot, List<Integer>> next = new HashMap<>();
            for (Spot s : level) {
                for (int b = 1; b >= 0; b--) {
                    Spot then = step(s, b);
                    List<Integer> row = new ArrayList<>(first.get(s));
                    row.add(b);
                    if (!first.containsKey(then) && (!next.containsKey(then) || less(row, next.get(then)))) {
                        next.put(then, row);
                    }
                }
            }
            first.putAll(next);
            level = new ArrayList<>(next.keySet());
        }
        return null;
    }

    private static boolean less(List<Integer> a, List<Integer> b) {
        for (int i = 0; i < a.size(); i++) {
            if (!a.get(i).equals(b.get(i))) {
                return a.get(i) < b.get(i);
            }
        }
        return false;
    }

    private static int length(List<Integer> row) { return row == null ? NONE : row.size(); }
    private static int blind(List<Integer> row, int i) { return row == null || i >= row.size() ? NONE : row.get(i); }

    int out() { return now.who() == NONE ? -5 : length(shortest(s -> s.who() == NONE)); }

    int outBy(int i) {
        return i < 0 ? -3 : now.who() == NONE ? -5 : blind(shortest(s -> s.who() == NONE), i);
    }

    /** forced.get(k): the walls from which it goes within k nights, she minding the blind first. */
    private List<BitSet> forcedSheFirst, forcedHeFirst;

    private void force() {
        forcedSheFirst = new ArrayList<>(List.of(new BitSet()));
        forcedHeFirst = new ArrayList<>(List.of(new BitSet()));
        for (int k = 1; k <= 2 * LONG; k++) {
            BitSet she = new BitSet(), he = new BitSet();
            for (int w = 0; w <= full(); w++) {
                boolean any = false, every = true;
                for (int b = 0; b < 2; b++) {
                    Spot s = step(new Spot(w, now.who()), b);
                    any |= s.who() == NONE || forcedHeFirst.get(k - 1).get(s.wall());
                    every &= s.who() == NONE || forcedSheFirst.get(k - 1).get(s.wall());
                }
                she.set(w, any);
                he.set(w, every);
            }
            boolean same = she.equals(forcedSheFirst.get(k - 1)) && he.equals(forcedHeFirst.get(k - 1));
            forcedSheFirst.add(she);
            forcedHeFirst.add(he);
            if (same) {
                return;
            }
        }
    }

    int forces() {
        if (now.who() == NONE) {
            return -5;
        }
        force();
        for (int k = 1; k < forcedSheFirst.size(); k++) {
            if (forcedSheFirst.get(k).get(now.wall())) {
                return k;
            }
        }
        return NONE;
    }

    int minds() {
        int k = forces();
        if (k < 0) {
            return k;
        }
        Spot s = step(here(), 0);
        return s.who() == NONE || forcedHeFirst.get(k - 1).get(s.wall()) ? 0 : 1;
    }

    // ---- walls

    int soonest(int w) { return !isWall(w) ? -3 : length(shortest(s -> s.wall() == w)); }
    int way(int w, int i) { return !isWall(w) || i < 0 ? -3 : blind(shortest(s -> s.wall() == w), i); }
    int toFace() { return told.face == 0 ? NONE : soonest(told.face); }

    int walls() {
        Set<Spot> seen = new HashSet<>(List.of(here()));
        Deque<Spot> todo = new ArrayDeque<>(seen);
        while (!todo.isEmpty()) {
            Spot s = todo.pop();
            for (int b = 0; b < 2; b++) {
                if (seen.add(step(s, b))) {
                    todo.push(step(s, b));
                }
            }
        }
        return (int) seen.stream().mapToInt(Spot::wall).distinct().count();
    }

    int parents(int wall, int b, int t) {
        if (t != NONE && !isTenant(t)) {
            return -2;
        }
        if (!isWall(wall) || !isBlind(b)) {
            return -3;
        }
        int sum = 0;
        for (int w = 0; w <= full(); w++) {
            sum += step(new Spot(w, t), b).wall() == wall ? 1 : 0;
        }
        return sum;
    }

    int orphans(int b, int t) {
        if (t != NONE && !isTenant(t)) {
            return -2;
        }
        if (!isBlind(b)) {
            return -3;
        }
        int sum = 0;
        for (int w = 0; w <= full(); w++) {
            sum += parents(w, b, t) == 0 ? 1 : 0;
        }
        return sum;
    }

    int still(int b, int t) {
        if (t != NONE && !isTenant(t)) {
            return -2;
        }
        if (!isBlind(b)) {
            return -3;
        }
        int sum = 0;
        for (int w = 0; w <= full(); w++) {
            sum += step(new Spot(w, t), b).wall() == w ? 1 : 0;
        }
        return sum;
    }

    int rows(int wall, int n) {
        if (!isWall(wall) || n < 0 || n > 20) {
            return -3;
        }
        Map<Spot, Integer> ways = new HashMap<>(Map.of(here(), 1));
        for (int i = 0; i < n; i++) {
            Map<Spot, Integer> then = new HashMap<>();
            for (Map.Entry<Spot, Integer> e : ways.entrySet()) {
                then.merge(step(e.getKey(), 0), e.getValue(), Integer::sum);
                then.merge(step(e.getKey(), 1), e.getValue(), Integer::sum);
            }
            ways = then;
        }
        int sum = 0;
        for (Map.Entry<Spot, Integer> e : ways.entrySet()) {
            sum += e.getKey().wall() == wall ? e.getValue() : 0;
        }
        return sum;
    }

    // ---- seen

    private int refused(int tray) {
        if (!isTray(tray)) {
            return -2;
        }
        if (trays[tray] == null) {
            return -6;
        }
        if (trays[tray].length < 1 || trays[tray].length > 10) {
            return -4;
        }
        return Arrays.stream(trays[tray]).allMatch(v -> v == NONE || isWall(v)) ? 0 : -3;
    }

    /** Whether all is seen as told; bit i of the row is the blind of night i. */
    private boolean fits(int tray, Spot from, int temper, int row) {
        Spot s = from;
        for (int i = 0; i < trays[tray].length; i++) {
            s = step(s, temper, row >> i & 1);
            if (trays[tray][i] != NONE && trays[tray][i] != s.wall()) {
                return false;
            }
        }
        return true;
    }

    private List<Integer> fitting(int tray, Spot from) {
        List<Integer> all = new ArrayList<>();
        int n = trays[tray].length;
        for (int k = 0; k < 1 << n; k++) {
            int row = Integer.reverse(k) >>> 32 - n;
            if (fits(tray, from, now.temper(), row)) {
                all.add(row);
            }
        }
        return all;
    }

    int seen(int tray) { return refused(tray) != 0 ? refused(tray) : fitting(tray, here()).size(); }

    int seenBy(int tray, int i) {
        if (refused(tray) != 0) {
            return refused(tray);
        }
        if (i < 0) {
            return -3;
        }
        List<Integer> all = fitting(tray, here());
        return all.isEmpty() || i >= trays[tray].length ? NONE : all.get(0) >> i & 1;
    }

    int whose(int tray) {
        if (refused(tray) != 0) {
            return refused(tray);
        }
        int set = 0;
        for (int t = 0; t <= 9; t++) {
            if ((t == 9 || isTenant(t)) && !fitting(tray, new Spot(now.wall(), t == 9 ? NONE : t)).isEmpty()) {
                set |= 1 << t;
            }
        }
        return set;
    }

    int tempers(int tray, int blinds) {
        if (refused(tray) != 0) {
            return refused(tray);
        }
        if (blinds < 0 || blinds > (1 << trays[tray].length) - 1) {
            return -3;
        }
        int set = 0;
        for (int n = 0; n <= 9; n++) {
            set |= fits(tray, here(), n, blinds) ? 1 << n : 0;
        }
        return set;
    }

    int attempt(int tray, int blinds) {
        int set = tempers(tray, blinds);
        if (set <= 0) {
            return set == 0 ? NONE : set;
        }
        int[] most = new int[2];
        for (int b = 0; b < 2; b++) {
            Map<Integer, Integer> groups = new HashMap<>();
            for (int n = 0; n <= 9; n++) {
                if ((set >> n & 1) == 1) {
                    groups.merge(step(here(), n, b).wall(), 1, Integer::sum);
                }
            }
            most[b] = groups.values().stream().mapToInt(v -> v).max().getAsInt();
        }
        return most[0] <= most[1] ? 0 : 1;
    }

    // ---- chances

    private BigInteger above(Spot start, int n) {
        Map<Spot, BigInteger> at = new HashMap<>(Map.of(start, BigInteger.ONE));
        for (int i = 0; i < n; i++) {
            Map<Spot, BigInteger> then = new HashMap<>();
            for (Map.Entry<Spot, BigInteger> e : at.entrySet()) {
                then.merge(step(e.getKey(), 1), e.getValue().multiply(BigInteger.valueOf(told.open)), BigInteger::add);
                then.merge(step(e.getKey(), 0), e.getValue().multiply(BigInteger.valueOf(10 - told.open)), BigInteger::add);
            }
            at = then;
        }
        BigInteger sum = BigInteger.ZERO;
        for (Map.Entry<Spot, BigInteger> e : at.entrySet()) {
            sum = e.getKey().who() == NONE ? sum : sum.add(e.getValue());
        }
        return sum;
    }

    int chance(int n, int what) {
        if (what < 0 || what > 1) {
            return -2;
        }
        if (n < 0 || n > 8) {
            return -3;
        }
        if (now.who() == NONE) {
            return -5;
        }
        BigInteger a = above(here(), n), b = BigInteger.TEN.pow(n);
        return (what == 0 ? a : b).divide(a.gcd(b)).intValueExact();
    }

    int gone(int m) {
        if (m < 0 || m > 100) {
            return -3;
        }
        if (now.who() == NONE) {
            return -5;
        }
        for (int n = 0; n <= 8; n++) {
            BigInteger hundred = above(here(), n).multiply(BigInteger.valueOf(100));
            if (hundred.compareTo(BigInteger.TEN.pow(n).multiply(BigInteger.valueOf(m))) < 0) {
                return n;
            }
        }
        return NONE;
    }

    int best(int n) {
        if (n < 0 || n > 8) {
            return -3;
        }
        int best = NONE;
        for (int t = 0; t < told.patience.size(); t++) {
            if (best == NONE || above(new Spot(now.wall(), t), n).compareTo(above(new Spot(now.wall(), best), n)) > 0) {
                best = t;
            }
        }
        return best;
    }

    // ---- trays, images

    private static long cut(int sort, long v) {
        return sort == 0 ? (byte) v : sort == 1 ? (short) v : sort == 2 ? (int) v : v;
    }

    int numbers(int tray, int sort, int n) {
        if (!isTray(tray) || sort < 0 || sort > 3) {
            return -2;
        }
        if (n < 0 || n > 40) {
            return -3;
        }
        trays[tray] = new long[n];
        sorts[tray] = sort;
        return 0;
    }

    long write(int tray, int i, long v) {
        if (!isTray(tray)) {
            return -2;
        }
        if (trays[tray] == null) {
            return -6;
        }
        if (i < 0 || i >= trays[tray].length) {
            return -7;
        }
        trays[tray][i] = cut(sorts[tray], v);
        return trays[tray][i];
    }

    int lists(int tray, int b) {
        if (!isTray(tray)) {
            return -2;
        }
        if (trays[tray] == null) {
            return -6;
        }
        if (!isBlind(b)) {
            return -3;
        }
        for (int i = 0; i < trays[tray].length; i++) {
            trays[tray][i] = cut(sorts[tray], lies(i + 1, b));
        }
        return trays[tray].length;
    }

    int image(int i) {
        if (i < 0 || i > 1) {
            return -2;
        }
        imageRooms[i] = told;
        images[i] = now;
        return 0;
    }

    int restore(int i) {
        if (i < 0 || i > 1) {
            return -2;
        }
        if (images[i] == null) {
            return -5;
        }
        told = imageRooms[i];
        now = images[i];
        past.clear();
        return 0;
    }

    int count(int what) {
        return switch (what) {
            case 0 -> roses();
            case 1 -> told.patience.size();
            case 2 -> now.wall();
            case 3 -> now.who();
            case 4 -> Integer.bitCount(now.wall());
            case 5 -> told.face;
            case 6 -> now.temper();
            case 7 -> now.nights();
            case 8 -> past.size();
            case 9 -> tape.length();
            case 10 -> told.lines;
            default -> NONE;
        };
    }
}
