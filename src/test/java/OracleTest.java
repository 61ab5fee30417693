import java.lang.reflect.Method;
import java.util.ArrayList;
import java.util.HashMap;
import java.util.List;
import java.util.Map;
import java.util.Random;

/** Runs of drawn calls, answered by RoseWall and by Oracle: every answer must be the same. */
public final class OracleTest {
    private static final String[] VALUES_TURNS = {"light", "tenant", "cell", "kind", "near", "turned", "temper"};
    private static final String[] VALUES_GOES = {"light", "tenant", "all", "face", "patience"};
    private static final String[] WORDS = {"wall", "row", "tenant", "in", "turned", "face", "open", "temper", "turns", "goes",
        "patience", "or", "and", "not", "light", "cell", "kind", "near", "all", "ivy", "walls", ";", ":", "+", "-", "*",
        "(", ")", "[", "]", "=", "<", ">", "0", "1", "2", "3", "9", "10", "999", "1000", "00", "?", "\t", "A", "\u00e9", "\u0000"};

    private final Random random;
    private final RoseWall x = new RoseWall();
    private final Oracle oracle = new Oracle();
    private final Map<String, Method> ours = methods(RoseWall.class);
    private final Map<String, Method> theirs = methods(Oracle.class);
    private final List<String> log = new ArrayList<>();
    private final int[] hits;
    private boolean wrong;

    private OracleTest(long seed, int[] hits) {
        random = new Random(seed);
        this.hits = hits;
    }

    private static Map<String, Method> methods(Class<?> type) {
        Map<String, Method> all = new HashMap<>();
        for (Method m : type.getDeclaredMethods()) {
            if (!java.lang.reflect.Modifier.isPrivate(m.getModifiers()) && !m.isSynthetic()) {
                m.setAccessible(true);
                all.put(m.getName(), m);
            }
        }
        return all;
    }

    private long call(String name, Object... args) {
        if (log.size() >= 512) {
            throw new IllegalStateException("what an object answers behind its 512th call is free");
        }
        try {
            long got = ((Number) ours.get(name).invoke(x, args)).longValue();
            long due = ((Number) theirs.get(name).invoke(oracle, args)).longValue();
            log.add(name + java.util.Arrays.toString(args) + " " + got);
            if (got != due && !wrong) {
                wrong = true;
                log.add("   due is " + due);
            }
            return due;
        } catch (ReflectiveOperationException e) {
            throw new IllegalStateException(name + " after " + log, e.getCause() == null ? e : e.getCause());
        }
    }

    private int upTo(int n) { return random.nextInt(Math.max(0, n) + 1); }
    private boolean often(int percent) { return random.nextInt(100) < percent; }
    private String one(String[] of) { return of[random.nextInt(of.length)]; }
    private String blank() { return often(80) ? " " : often(50) ? "\n" : "  \n "; }
    private String gap() { return often(60) ? "" : blank(); }

    // ---- texts

    private String atom(boolean turns, int depth) {
        if (depth > 0 && often(15)) {
            return "(" + sum(turns, depth - 1) + ")";
        }
        if (often(35)) {
            return "" + (often(80) ? upTo(9) : upTo(999));
        }
        return one(turns ? VALUES_TURNS : VALUES_GOES);
    }

    private String sum(boolean turns, int depth) {
        StringBuilder s = new StringBuilder(atom(turns, depth));
        while (often(25)) {
            s.append(gap()).append(one(new String[] {"+", "-", "*"})).append(gap()).append(atom(turns, depth));
        }
        return s.toString();
    }

    private String unit(boolean turns, int depth) {
        if (depth > 0 && often(15)) {
            return "not " + unit(turns, depth - 1);
        }
        if (depth > 0 && often(15)) {
            return "[" + truth(turns, depth - 1) + "]";
        }
        return sum(turns, depth) + gap() + one(new String[] {"=", "<", ">"}) + gap() + sum(turns, depth);
    }

    private String truth(boolean turns, int depth) {
        StringBuilder s = new StringBuilder(unit(turns, depth));
        while (often(35)) {
            s.append(blank()).append(often(50) ? "and" : "or").append(blank()).append(unit(turns, depth));
        }
        return s.toString();
    }

    private String lines() {
        int rows = 1 + upTo(2), columns = 1 + upTo(2), roses = rows * columns, tenants = 0;
        StringBuilder s = new StringBuilder("wall " + rows + blank() + columns + ";");
        int many = 2 + upTo(9);
        for (int i = 0; i < many; i++) {
            int sort = upTo(11);
            if (sort == 0) {
                s.append("row ").append(upTo(rows - 1));
                for (int c = 0; c < columns; c++) {
                    s.append(blank()).append(upTo(9));
                }
            } else if (sort <= 3 && tenants < 4) {
                s.append("tenant");
                while (often(60)) {
                    s.append(" patience ").append(upTo(often(50) ? 9 : roses - 1));
                }
                tenants++;
            } else if (sort == 4 && tenants > 0) {
                s.append("in ").append(upTo(tenants - 1));
            } else if (sort == 5) {
                s.append("turned ").append(upTo(roses - 1));
            } else if (sort == 6) {
                s.append("face");
                do {
                    s.append(" ").append(upTo(roses - 1));
                } while (often(50));
            } else if (sort == 7) {
                s.append("open ").append(upTo(10));
            } else if (sort == 8) {
                s.append("temper ").append(upTo(9));
            } else if (sort == 9 || sort == 11) {
                s.append("turns").append(gap()).append(":").append(truth(true, 3));
            } else {
                s.append("goes").append(gap()).append(":").append(truth(false, 3));
            }
            s.append(gap()).append(";").append(gap());
        }
        if (tenants > 0 && often(70)) {
            s.append("in ").append(upTo(tenants - 1)).append(";");
        }
        return s.toString();
    }

    private String condition() {
        String[] signs = {"=", "=", ">", "<"};
        switch (upTo(8)) {
            case 0: case 1: return "near " + one(signs) + " " + upTo(4);
            case 2: return "turned = " + upTo(1);
            case 3: case 4: return "light = " + upTo(1);
            case 5: return "cell " + one(signs) + " " + upTo(8);
            case 6: return "kind " + one(signs) + " " + upTo(3);
            case 7: return "temper " + one(signs) + " " + upTo(9);
            default: return often(50) ? "tenant = " + upTo(3) : "near = cell - temper * light";
        }
    }

    private String table() {
        StringBuilder s = new StringBuilder();
        int terms = 2 + upTo(5);
        for (int i = 0; i < terms; i++) {
            s.append(i == 0 ? "" : " or ").append(condition()).append(" and ").append(condition());
            s.append(often(40) ? " and " + condition() : "");
        }
        return s.toString();
    }

    /** A sum that takes many values, and which of them hold: walls come that are hard to foresee. */
    private String mixed() {
        String sum = "near*" + upTo(3) + "+turned*" + upTo(5) + "+light*" + upTo(7) + "+kind*" + upTo(2) + "+cell*" + upTo(2)
            + (often(40) ? "-temper" : "") + (often(30) ? "+tenant" : "");
        StringBuilder s = new StringBuilder();
        for (int v = 0; v < 24; v++) {
            if (often(40)) {
                s.append(s.length() == 0 ? "" : " or ").append(sum).append("=").append(v);
            }
        }
        return s.length() == 0 || s.length() > 600 ? sum + ">6" : s.toString();
    }

    /** A room in which much goes on: laws as tables of conditions, that the blind has a say in. */
    private String lively() {
        int rows = 1 + upTo(2), columns = 1 + upTo(2), roses = rows * columns;
        StringBuilder s = new StringBuilder("wall " + rows + " " + columns + ";");
        for (int r = 0; r < rows && often(70); r++) {
            s.append("row ").append(r);
            for (int c = 0; c < columns; c++) {
                s.append(" ").append(upTo(3));
            }
            s.append(";");
        }
        int tenants = 1 + upTo(3);
        for (int t = 0; t < tenants; t++) {
            s.append("tenant patience ").append(upTo(roses)).append(";");
        }
        s.append("in ").append(upTo(tenants - 1)).append(";open ").append(upTo(10)).append(";temper ").append(upTo(9)).append(";");
        for (int i = 0; i < roses && often(60); i++) {
            s.append("turned ").append(upTo(roses - 1)).append(";");
        }
        s.append("face ").append(upTo(roses - 1)).append(often(50) ? " " + upTo(roses - 1) : "").append(";turns : ");
        s.append(often(50) ? table() : mixed());
        String[] goes = {"", "goes : all = " + upTo(roses) + ";", "goes : face = 1;", "goes : all = " + upTo(roses) + " and light = " + upTo(1) + ";",
            "goes : all > patience + 2 * light;", "goes : all = patience or face = 1 and light = 0;", "goes : all + tenant = " + upTo(roses) + ";"};
        return s.append(";").append(one(goes)).toString();
    }

    /** A text with some token put in, left out, or put in place of another one. */
    private String spoilt(String text) {
        int at = upTo(text.length());
        int end = Math.min(text.length(), at + upTo(often(50) ? 1 : 6));
        String put = often(20) ? "" : often(30) ? "" + upTo(12) : one(WORDS);
        if (often(10)) {
            put = "not [(".substring(0, 1 + upTo(5)).repeat(1 + upTo(7));
        }
        return text.substring(0, at) + (often(50) ? " " : "") + put + (often(50) ? " " : "") + text.substring(end);
    }

    private String nested() {
        StringBuilder s = new StringBuilder("wall 1 1;turns : ");
        int deep = 5 + upTo(2);
        StringBuilder close = new StringBuilder();
        boolean sums = false;
        for (int i = 0; i < deep; i++) {
            if (!sums && often(30)) {
                s.append("not ");
            } else if (!sums && often(60)) {
                s.append("[");
                close.insert(0, "]");
            } else {
                s.append("(");
                close.insert(0, sums ? ")" : ")=1");
                sums = true;
            }
        }
        return s + (sums ? "1" : "1=1") + close + ";";
    }

    private void tell() {
        String text = often(4) ? nested() : often(60) ? lively() : lines();
        if (often(15)) {
            text = spoilt(text);
        }
        if (text.length() > 900) {
            return;
        }
        for (int i = 0; i < text.length(); i += 20) {
            int[] five = new int[5];
            for (int k = 0; k < 20; k++) {
                five[k / 4] = five[k / 4] << 8 | (i + k < text.length() ? text.charAt(i + k) & 255 : upTo(255));
            }
            call("feed", five[0], five[1], five[2], five[3], five[4]);
        }
        if (often(3)) {
            call("room", -1);
        }
        if (often(5)) {
            call("room", 901);
        }
        log.add("text: " + text);
        long got = call("room", text.length());
        hits[(int) (got < 0 ? -30 - got : 0)]++;
        call("fault", 0);
        call("fault", 1);
    }

    // ---- calls

    private int wall() {
        if (often(40)) {
            return (int) call("lies", upTo(12), upTo(1));
        }
        return often(90) ? upTo((1 << (int) call("count", 0)) - 1) : upTo(1) == 0 ? -1 : 1 << upTo(10);
    }

    private int blind() { return often(92) ? upTo(1) : often(50) ? -1 : 2; }
    private int tray() { return often(95) ? upTo(3) : often(50) ? -1 : 4; }
    private int what(int most) { return often(95) ? upTo(most) : often(50) ? -1 : most + 1; }
    private int who() { return upTo((int) call("count", 1) + 1) - 1; }
    private int few(int most) { return often(94) ? upTo(often(60) ? Math.min(6, most) : most) : often(50) ? -1 : most + 1; }

    private void deed() {
        switch (upTo(9)) {
            case 0: call("night", blind()); break;
            case 1: call("nights", few(99), blind()); break;
            case 2: case 3: case 4: call("let", what((int) call("count", 1) - 1)); break;
            case 5: call("turn", what((int) call("count", 0) - 1)); break;
            case 6: call("temper", what(9)); break;
            case 7: call("undo", few(10)); break;
            case 8: call("perform", tray()); break;
            default: call("season", random.nextInt(), often(90) ? 1 + upTo(7) : few(40)); break;
        }
    }

    private void ask() {
        switch (upTo(25)) {
            case 0: call("rose", what((int) call("count", 0) - 1), what(4)); break;
            case 1: call("tenant", what((int) call("count", 1) - 1), what(3)); break;
            case 2: call("judge", tray(), what(3)); break;
            case 3: call("lies", often(50) ? few(99) : few(99999), blind()); break;
            case 4: call("round", blind(), what(3)); break;
            case 5: call("stays"); break;
            case 6: call("stayBy", few(99)); break;
            case 7: call("out"); call("outBy", few(20)); break;
            case 8: call("forces"); call("minds"); break;
            case 9: call("soonest", wall()); break;
            case 10: call("way", wall(), few(8)); break;
            case 11: call("toFace"); break;
            case 12: call("walls"); break;
            case 13: call("parents", wall(), blind(), who()); break;
            case 14: if (often(30)) { call("orphans", blind(), who()); } break;
            case 15: call("still", blind(), who()); break;
            case 16: call("rows", wall(), few(20)); break;
            case 17: call("seen", tray()); break;
            case 18: call("seenBy", tray(), few(10)); break;
            case 19: call("whose", tray()); break;
            case 20: call("tempers", tray(), often(80) ? upTo(1) : few(1023)); break;
            case 21: call("attempt", tray(), often(80) ? upTo(1) : few(1023)); break;
            case 22: call("chance", few(8), what(1)); break;
            case 23: call("gone", often(50) ? few(100) : upTo(100)); break;
            case 24: call("best", few(8)); break;
            default: call("count", what(10)); break;
        }
    }

    /** A tray of walls that can be seen, of deeds, or of anything. */
    private void fillTray() {
        int tray = tray();
        int sort = upTo(4);
        if (sort <= 1) {
            int n = often(90) ? 1 + upTo(4) : few(40);
            call("numbers", tray, often(95) ? 1 + upTo(2) : what(3), n);
            call("lists", tray, blind());
            for (int i = 0; i < n; i++) {
                if (often(30)) {
                    call("write", tray, i, often(80) ? -1L : (long) wall());
                }
            }
        } else if (sort == 2) {
            int n = upTo(7);
            call("numbers", tray, upTo(3), n);
            for (int i = 0; i < n; i++) {
                long v = often(50) ? upTo(1) : often(95) ? 10 * (1 + upTo(2)) + upTo(9) : random.nextInt();
                call("write", tray, i, v);
            }
        } else if (sort == 3) {
            call("numbers", tray, what(3), few(40));
        } else {
            call("write", tray, few(40), often(50) ? random.nextLong() : (long) random.nextInt(1000) - 300);
        }
    }

    private boolean run(int calls) {
        if (often(95)) {
            tell();
        }
        for (int i = 0; i < 4 && often(90); i++) {
            fillTray();
        }
        while (log.size() < calls && !wrong) {
            int sort = upTo(99);
            if (sort < 2) {
                tell();
            } else if (sort < 4) {
                call("image", what(1));
            } else if (sort < 6) {
                call("restore", what(1));
            } else if (sort < 26) {
                deed();
            } else if (sort < 36) {
                fillTray();
            } else {
                ask();
            }
        }
        for (int what = -1; what <= 11; what++) {
            call("count", what);
        }
        if (wrong) {
            log.forEach(System.out::println);
        }
        return wrong;
    }

    /** Every call with numbers far out of their bounds, and at them. */
    private boolean runExtremes() {
        int[] numbers = {Integer.MIN_VALUE, -2, -1, 0, 1, 3, 9, 10, 40, 100, 512, 99999, Integer.MAX_VALUE};
        tell();
        for (int tray = 0; tray < 3; tray++) {
            call("numbers", tray, 1 + tray, 1 + tray);
            call("lists", tray, tray % 2);
        }
        for (Method m : ours.values()) {
            for (int i = 0; i < 8 && !wrong; i++) {
                Object[] args = new Object[m.getParameterCount()];
                for (int k = 0; k < args.length; k++) {
                    int drawn = numbers[random.nextInt(numbers.length)];
                    args[k] = m.getParameterTypes()[k] == long.class ? (Object) (drawn * 3L) : (Object) drawn;
                }
                call(m.getName(), args);
            }
        }
        return run(0);
    }

    /** Rooms of which nearly all walls can come, with somebody in and with nobody: found by a search. */
    private boolean runWide(String goes) {
        String text = "wall 3 3;row 0 5 4 2;row 1 6 4 2;row 2 3 7 3;tenant patience 3;tenant;in 0;face 0 4 8;"
            + "turns:turned+light=light*near or near*turned>4 or 1=cell+near;goes:" + goes + ";";
        for (int i = 0; i < text.length(); i += 20) {
            int[] fives = new int[5];
            for (int k = 0; k < 20; k++) {
                fives[k / 4] = fives[k / 4] << 8 | (i + k < text.length() ? text.charAt(i + k) : ' ');
            }
            call("feed", fives[0], fives[1], fives[2], fives[3], fives[4]);
        }
        call("room", text.length());
        for (int again = 0; again < 2; again++) {
            for (String name : new String[] {"stays", "out", "forces", "minds", "toFace", "walls"}) {
                call(name);
            }
            for (int i = 0; i < 100; i += 9) {
                call("stayBy", i);
                call("outBy", i / 5);
                call("soonest", i * 5);
                call("way", i * 5, i % 7);
                call("rows", i * 4, i % 21);
            }
            for (int blind = 0; blind < 2; blind++) {
                for (int what = 0; what < 4; what++) {
                    call("round", blind, what);
                }
                call("orphans", blind, 0);
                call("lies", 99999, blind);
            }
            call("chance", 8, 0);
            call("gone", 90);
            call("best", 8);
            call("night", again);
        }
        return run(0);
    }

    public static void main(String[] args) {
        int runs = args.length > 0 ? Integer.parseInt(args[0]) : 700;
        long first = args.length > 1 ? Long.parseLong(args[1]) : 1;
        int[] hits = new int[5];
        long asked = 0;
        for (long seed = first; seed < first + runs; seed++) {
            OracleTest test = new OracleTest(seed, hits);
            if (test.run(150)) {
                System.out.println("seed " + seed);
                System.exit(1);
            }
            asked += test.log.size();
            OracleTest extremes = new OracleTest(seed, hits);
            if (seed % 5 == 0 && extremes.runExtremes()) {
                System.out.println("extremes, seed " + seed);
                System.exit(1);
            }
            asked += extremes.log.size();
        }
        for (String goes : new String[] {"1=0", "face=1", "all=8 and light=1", "all=4 and light=0", "all>6", "all=5 and light=1 or face=1", "all=3-tenant and light=1", "all=0"}) {
            OracleTest wide = new OracleTest(1, hits);
            if (wide.runWide(goes)) {
                System.out.println("wide, " + goes);
                System.exit(1);
            }
            asked += wide.log.size();
        }
        System.out.println(asked + " answers looked at; rooms read and faulty, by fault: " + java.util.Arrays.toString(hits));
    }
}
