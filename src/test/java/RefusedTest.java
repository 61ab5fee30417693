/** Each code that a promise lists, by a call of its own, and that nothing has changed behind it; of several codes that which the call tells first. */
public final class RefusedTest {
    private static final Check check = new Check();

    interface Ask { long of(RoseWall x); }

    /** A room with all in it, deeds done, trays of each sort, an image, a text on the tape. */
    private static RoseWall rich() {
        return rich("in 1;");
    }

    private static RoseWall rich(String in) {
        RoseWall x = Check.told("wall 2 3;row 0 1 2 3;row 1 4 5 6;tenant patience 2;tenant;tenant patience 0;" + in + "turned 0;face 0 1;open 3;temper 4;"
            + "turns : near > light + 1 or temper = cell;goes : all > patience + 3 * light;");
        x.turn(4);
        x.image(0);
        x.night(1);
        x.temper(2);
        x.turn(5);
        Check.fill(x, 0, 20, 25, 38, 1, 0, 21, 20);
        x.numbers(2, 1, 2);
        x.write(2, 0, 3);
        x.write(2, 1, -1);
        x.numbers(3, 0, 11);
        x.write(3, 10, 21);
        Check.feed(x, "wall 1 3;turned 2;temper 8;in 0;");
        return x;
    }

    /** The same with nobody in, and an empty tray 2. */
    private static RoseWall nobodyIn() {
        RoseWall x = rich("");
        x.numbers(2, 2, 0);
        return x;
    }

    private static RoseWall fullTape() {
        RoseWall x = rich();
        for (int i = x.count(9); i < 900; i += 20) {
            x.feed(0x20202020, 0x20202020, 0x20202020, 0x20202020, 0x20202020);
        }
        return x;
    }

    private static void tellRoom(RoseWall x, StringBuilder all) {
        for (int what = 0; what <= 10; what++) {
            all.append(x.count(what)).append(' ');
        }
        for (int c = 0; c < x.count(0); c++) {
            all.append(x.rose(c, 0)).append(x.rose(c, 1)).append(x.rose(c, 3)).append(x.rose(c, 4)).append(' ');
        }
        for (int t = 0; t < x.count(1); t++) {
            all.append(x.tenant(t, 0)).append(x.tenant(t, 2)).append(x.tenant(t, 3)).append(' ');
        }
        all.append(x.best(3)).append('|');
    }

    /** All that can be learnt of an object; it is spoilt by it. */
    private static String learnt(RoseWall x) {
        StringBuilder all = new StringBuilder();
        all.append(x.fault(0)).append(' ').append(x.fault(1)).append('|');
        tellRoom(x, all);
        for (int tray = 0; tray < 4; tray++) {
            for (int what = 0; what < 4; what++) {
                all.append(x.judge(tray, what)).append(' ');
            }
            all.append(x.seen(tray)).append(' ');
            for (int i = 0; i <= 12; i++) {
                all.append(x.write(tray, i, 1L << 33 | 70000)).append(' ');
            }
            all.append('|');
        }
        for (int i = 0; i < 10 && x.undo(1) >= 0; i++) {
            all.append(x.count(2)).append(' ').append(x.count(3)).append(' ').append(x.count(6)).append(' ').append(x.count(7)).append('|');
        }
        for (int i = 0; i < 2; i++) {
            all.append(x.restore(i)).append(' ');
            tellRoom(x, all);
        }
        all.append(x.room(x.count(9))).append(' ').append(x.fault(0)).append(' ').append(x.fault(1));
        return all.toString();
    }

    private static void refused(String call, RoseWall x, RoseWall twin, Ask ask, int code) {
        check.due(call, ask.of(x), code);
        check.same(call + " changes nothing", learnt(x), learnt(twin));
    }

    private static void rich(String call, Ask ask, int code) {
        refused(call, rich(), rich(), ask, code);
    }

    private static void empty(String call, Ask ask, int code) {
        refused("nobody in: " + call, nobodyIn(), nobodyIn(), ask, code);
    }

    private static final int[] FAR = {Integer.MIN_VALUE, Integer.MIN_VALUE + 1, Integer.MAX_VALUE};

    private static void theRoom() {
        check.said("feed: -5: it would have more than 900");
        refused("feed", fullTape(), fullTape(), x -> x.feed(1, 2, 3, 4, 5), -5);
        refused("feed twice", fullTape(), fullTape(), x -> x.feed(1, 2, 3, 4, 5) + x.feed(0, 0, 0, 0, 0), -10);
        check.said("room: -3: n is below 0 or above what there is (THE TAPE stays)");
        rich("room(-1)", x -> x.room(-1), -3);
        rich("room(41)", x -> x.room(41), -3);
        refused("room(901)", fullTape(), fullTape(), x -> x.room(901), -3);
        check.said("rose, tenant: -2");
        for (int c : new int[] {-1, 6, 7, 9}) {
            rich("rose(" + c + ", 0)", x -> x.rose(c, 0), -2);
            rich("rose(" + c + ", 5)", x -> x.rose(c, 5), -2);
        }
        rich("rose(0, -1)", x -> x.rose(0, -1), -2);
        rich("rose(5, 5)", x -> x.rose(5, 5), -2);
        for (int t : new int[] {-1, 3, 4, 9}) {
            rich("tenant(" + t + ", 0)", x -> x.tenant(t, 0), -2);
            rich("tenant(" + t + ", 4)", x -> x.tenant(t, 4), -2);
        }
        rich("tenant(0, -1)", x -> x.tenant(0, -1), -2);
        rich("tenant(2, 4)", x -> x.tenant(2, 4), -2);
        check.said("fault, count: NONE for others");
        for (int what : new int[] {-2, -1, 2, 3}) {
            rich("fault(" + what + ")", x -> x.fault(what), -1);
        }
        for (int what : new int[] {-2, -1, 11, 12}) {
            rich("count(" + what + ")", x -> x.count(what), -1);
        }
        for (int n : FAR) {
            rich("room(" + n + ")", x -> x.room(n), -3);
            rich("rose(" + n + ", 0)", x -> x.rose(n, 0), -2);
            rich("rose(0, " + n + ")", x -> x.rose(0, n), -2);
            rich("tenant(" + n + ", 0)", x -> x.tenant(n, 0), -2);
            rich("tenant(0, " + n + ")", x -> x.tenant(0, n), -2);
            rich("fault(" + n + ")", x -> x.fault(n), -1);
            rich("count(" + n + ")", x -> x.count(n), -1);
        }
    }

    private static void deeds() {
        check.said("night: -11");
        rich("night(-1)", x -> x.night(-1), -11);
        rich("night(2)", x -> x.night(2), -11);
        check.said("nights: -3: n; -11: the blind (behind -3)");
        rich("nights(0, 0)", x -> x.nights(0, 0), -3);
        rich("nights(100, 0)", x -> x.nights(100, 0), -3);
        rich("nights(-1, 1)", x -> x.nights(-1, 1), -3);
        rich("nights(0, 2)", x -> x.nights(0, 2), -3);
        rich("nights(100, -1)", x -> x.nights(100, -1), -3);
        rich("nights(1, 2)", x -> x.nights(1, 2), -11);
        rich("nights(99, -1)", x -> x.nights(99, -1), -11);
        check.said("let: -11, -12");
        rich("let(-1)", x -> x.let(-1), -11);
        rich("let(3)", x -> x.let(3), -11);
        rich("let(0)", x -> x.let(0), -12);
        rich("let(1)", x -> x.let(1), -12);
        rich("let(2)", x -> x.let(2), -12);
        empty("let(3)", x -> x.let(3), -11);
        empty("let(-1)", x -> x.let(-1), -11);
        check.said("turn: -11");
        rich("turn(-1)", x -> x.turn(-1), -11);
        rich("turn(6)", x -> x.turn(6), -11);
        rich("turn(9)", x -> x.turn(9), -11);
        check.said("temper: -11");
        rich("temper(-1)", x -> x.temper(-1), -11);
        rich("temper(10)", x -> x.temper(10), -11);
        check.said("undo: -3: n, more than can be");
        rich("undo(0)", x -> x.undo(0), -3);
        rich("undo(-1)", x -> x.undo(-1), -3);
        rich("undo(5)", x -> x.undo(5), -3);
        rich("undo(11)", x -> x.undo(11), -3);
        check.said("judge: -2: the TRAY, what; -6");
        rich("judge(-1, 0)", x -> x.judge(-1, 0), -2);
        rich("judge(4, 0)", x -> x.judge(4, 0), -2);
        rich("judge(0, -1)", x -> x.judge(0, -1), -2);
        rich("judge(0, 4)", x -> x.judge(0, 4), -2);
        rich("judge(1, 4)", x -> x.judge(1, 4), -2);
        rich("judge(1, 3)", x -> x.judge(1, 3), -6);
        check.said("perform: -2; -6");
        rich("perform(-1)", x -> x.perform(-1), -2);
        rich("perform(4)", x -> x.perform(4), -2);
        rich("perform(1)", x -> x.perform(1), -6);
        check.said("season: -3: how many times");
        rich("season(5, 0)", x -> x.season(5, 0), -3);
        rich("season(5, -1)", x -> x.season(5, -1), -3);
        rich("season(5, 41)", x -> x.season(5, 41), -3);
        for (int n : FAR) {
            rich("night(" + n + ")", x -> x.night(n), -11);
            rich("nights(" + n + ", 0)", x -> x.nights(n, 0), -3);
            rich("nights(1, " + n + ")", x -> x.nights(1, n), -11);
            rich("let(" + n + ")", x -> x.let(n), -11);
            rich("turn(" + n + ")", x -> x.turn(n), -11);
            rich("temper(" + n + ")", x -> x.temper(n), -11);
            rich("undo(" + n + ")", x -> x.undo(n), -3);
            rich("judge(" + n + ", 0)", x -> x.judge(n, 0), -2);
            rich("judge(0, " + n + ")", x -> x.judge(0, n), -2);
            rich("perform(" + n + ")", x -> x.perform(n), -2);
            rich("season(1, " + n + ")", x -> x.season(1, n), -3);
        }
    }

    private static void goingOn() {
        check.said("lies: -3: n, the blind");
        rich("lies(-1, 0)", x -> x.lies(-1, 0), -3);
        rich("lies(100000, 1)", x -> x.lies(100000, 1), -3);
        rich("lies(0, -1)", x -> x.lies(0, -1), -3);
        rich("lies(0, 2)", x -> x.lies(0, 2), -3);
        check.said("round: -2: what; -3: the blind");
        rich("round(0, -1)", x -> x.round(0, -1), -2);
        rich("round(1, 4)", x -> x.round(1, 4), -2);
        rich("round(2, 4)", x -> x.round(2, 4), -2);
        rich("round(-1, 0)", x -> x.round(-1, 0), -3);
        rich("round(2, 3)", x -> x.round(2, 3), -3);
        check.said("stays, out, forces, minds: -5");
        empty("stays()", x -> x.stays(), -5);
        empty("out()", x -> x.out(), -5);
        empty("forces()", x -> x.forces(), -5);
        empty("minds()", x -> x.minds(), -5);
        check.said("stayBy: -3: i is below 0, above 99; -5");
        rich("stayBy(-1)", x -> x.stayBy(-1), -3);
        rich("stayBy(100)", x -> x.stayBy(100), -3);
        empty("stayBy(-1)", x -> x.stayBy(-1), -3);
        empty("stayBy(100)", x -> x.stayBy(100), -3);
        empty("stayBy(0)", x -> x.stayBy(0), -5);
        empty("stayBy(99)", x -> x.stayBy(99), -5);
        check.said("outBy: -3: i is below 0; -5");
        rich("outBy(-1)", x -> x.outBy(-1), -3);
        empty("outBy(-1)", x -> x.outBy(-1), -3);
        empty("outBy(0)", x -> x.outBy(0), -5);
        empty("outBy(100)", x -> x.outBy(100), -5);
        for (int n : FAR) {
            rich("lies(" + n + ", 0)", x -> x.lies(n, 0), -3);
            rich("lies(0, " + n + ")", x -> x.lies(0, n), -3);
            rich("round(" + n + ", 0)", x -> x.round(n, 0), -3);
            rich("round(0, " + n + ")", x -> x.round(0, n), -2);
            rich("stayBy(" + n + ")", x -> x.stayBy(n), -3);
            rich("outBy(" + n + ")", x -> x.outBy(n), n < 0 ? -3 : -1);
        }
    }

    private static void walls() {
        check.said("soonest, way: -3: the set, i is below 0");
        rich("soonest(-1)", x -> x.soonest(-1), -3);
        rich("soonest(64)", x -> x.soonest(64), -3);
        rich("way(-1, 0)", x -> x.way(-1, 0), -3);
        rich("way(64, 0)", x -> x.way(64, 0), -3);
        rich("way(0, -1)", x -> x.way(0, -1), -3);
        rich("way(63, -1)", x -> x.way(63, -1), -3);
        check.said("parents, orphans, still: -2: the TENANT; -3: others are in the set, the blind");
        for (int t : new int[] {-2, 3, 4, 9}) {
            rich("parents(0, 0, " + t + ")", x -> x.parents(0, 0, t), -2);
            rich("parents(64, 2, " + t + ")", x -> x.parents(64, 2, t), -2);
            rich("orphans(0, " + t + ")", x -> x.orphans(0, t), -2);
            rich("orphans(2, " + t + ")", x -> x.orphans(2, t), -2);
            rich("still(0, " + t + ")", x -> x.still(0, t), -2);
            rich("still(-1, " + t + ")", x -> x.still(-1, t), -2);
        }
        for (int t : new int[] {-1, 0, 2}) {
            rich("parents(-1, 0, " + t + ")", x -> x.parents(-1, 0, t), -3);
            rich("parents(64, 0, " + t + ")", x -> x.parents(64, 0, t), -3);
            rich("parents(0, -1, " + t + ")", x -> x.parents(0, -1, t), -3);
            rich("parents(0, 2, " + t + ")", x -> x.parents(0, 2, t), -3);
            rich("orphans(-1, " + t + ")", x -> x.orphans(-1, t), -3);
            rich("orphans(2, " + t + ")", x -> x.orphans(2, t), -3);
            rich("still(-1, " + t + ")", x -> x.still(-1, t), -3);
            rich("still(2, " + t + ")", x -> x.still(2, t), -3);
        }
        check.said("rows: -3: the set, n");
        rich("rows(-1, 0)", x -> x.rows(-1, 0), -3);
        rich("rows(64, 0)", x -> x.rows(64, 0), -3);
        rich("rows(0, -1)", x -> x.rows(0, -1), -3);
        rich("rows(63, 21)", x -> x.rows(63, 21), -3);
        for (int n : FAR) {
            rich("soonest(" + n + ")", x -> x.soonest(n), -3);
            rich("way(" + n + ", 0)", x -> x.way(n, 0), -3);
            rich("way(0, " + n + ")", x -> x.way(0, n), n < 0 ? -3 : -1);
            rich("parents(" + n + ", 0, 0)", x -> x.parents(n, 0, 0), -3);
            rich("parents(0, " + n + ", 0)", x -> x.parents(0, n, 0), -3);
            rich("parents(0, 0, " + n + ")", x -> x.parents(0, 0, n), -2);
            rich("orphans(" + n + ", 0)", x -> x.orphans(n, 0), -3);
            rich("orphans(0, " + n + ")", x -> x.orphans(0, n), -2);
            rich("still(" + n + ", 0)", x -> x.still(n, 0), -3);
            rich("still(0, " + n + ")", x -> x.still(0, n), -2);
            rich("rows(" + n + ", 0)", x -> x.rows(n, 0), -3);
            rich("rows(0, " + n + ")", x -> x.rows(0, n), -3);
        }
    }

    interface AskTray { int of(RoseWall x, int tray); }

    private static void refusedSeen(String name, AskTray ask) {
        check.said(name + ": -2: the TRAY; -6; -4: not 1 to 10 numbers; -3: one is no WALL, nor NONE");
        for (int tray : new int[] {-1, 4, Integer.MIN_VALUE, Integer.MAX_VALUE}) {
            rich(name + " of tray " + tray, x -> ask.of(x, tray), -2);
        }
        rich(name + " of a tray that is missing", x -> ask.of(x, 1), -6);
        rich(name + " of eleven", x -> ask.of(x, 3), -4);
        empty(name + " of none", x -> ask.of(x, 2), -4);
        for (long v : new long[] {-2, 64, 1L << 32, Long.MIN_VALUE, Long.MAX_VALUE}) {
            RoseWall x = rich();
            RoseWall twin = rich();
            Check.fill(x, 0, 0, -1, v);
            Check.fill(twin, 0, 0, -1, v);
            refused(name + " of " + v, x, twin, y -> ask.of(y, 0), -3);
            x = rich();
            twin = rich();
            Check.fill(x, 0, v, 0, 0, 0, 0, 0, 0, 0, 0, 0, 0);
            Check.fill(twin, 0, v, 0, 0, 0, 0, 0, 0, 0, 0, 0, 0);
            refused(name + " of eleven, " + v + " among them", x, twin, y -> ask.of(y, 0), -4);
        }
    }

    private static void seen() {
        refusedSeen("seen", (x, tray) -> x.seen(tray));
        refusedSeen("seenBy", (x, tray) -> x.seenBy(tray, 0));
        refusedSeen("seenBy, i below 0", (x, tray) -> x.seenBy(tray, -1));
        refusedSeen("whose", (x, tray) -> x.whose(tray));
        refusedSeen("tempers", (x, tray) -> x.tempers(tray, 0));
        refusedSeen("tempers, others in the set", (x, tray) -> x.tempers(tray, -1));
        refusedSeen("attempt", (x, tray) -> x.attempt(tray, 0));
        refusedSeen("attempt, others in the set", (x, tray) -> x.attempt(tray, -1));
        check.said("seenBy: -3: also i is below 0");
        rich("seenBy(2, -1)", x -> x.seenBy(2, -1), -3);
        rich("seenBy(2, MIN)", x -> x.seenBy(2, Integer.MIN_VALUE), -3);
        check.said("tempers, attempt: -3: also others are in the set of blinds");
        for (int blinds : new int[] {-1, 4, 8, 1024, Integer.MIN_VALUE, Integer.MAX_VALUE}) {
            rich("tempers(2, " + blinds + ")", x -> x.tempers(2, blinds), -3);
            rich("attempt(2, " + blinds + ")", x -> x.attempt(2, blinds), -3);
        }
    }

    private static void chances() {
        check.said("chance: -2: what; -3: n; -5: nobody is in");
        rich("chance(0, -1)", x -> x.chance(0, -1), -2);
        rich("chance(8, 2)", x -> x.chance(8, 2), -2);
        rich("chance(9, 2)", x -> x.chance(9, 2), -2);
        rich("chance(-1, 0)", x -> x.chance(-1, 0), -3);
        rich("chance(9, 1)", x -> x.chance(9, 1), -3);
        empty("chance(9, 2)", x -> x.chance(9, 2), -2);
        empty("chance(9, 1)", x -> x.chance(9, 1), -3);
        empty("chance(8, 1)", x -> x.chance(8, 1), -5);
        empty("chance(0, 0)", x -> x.chance(0, 0), -5);
        check.said("gone: -3; -5");
        rich("gone(-1)", x -> x.gone(-1), -3);
        rich("gone(101)", x -> x.gone(101), -3);
        empty("gone(-1)", x -> x.gone(-1), -3);
        empty("gone(101)", x -> x.gone(101), -3);
        empty("gone(0)", x -> x.gone(0), -5);
        empty("gone(100)", x -> x.gone(100), -5);
        check.said("best: -3");
        rich("best(-1)", x -> x.best(-1), -3);
        rich("best(9)", x -> x.best(9), -3);
        check.due("best(9) ahead of NONE", new RoseWall().best(9), -3);
        for (int n : FAR) {
            rich("chance(" + n + ", 0)", x -> x.chance(n, 0), -3);
            rich("chance(0, " + n + ")", x -> x.chance(0, n), -2);
            rich("gone(" + n + ")", x -> x.gone(n), -3);
            rich("best(" + n + ")", x -> x.best(n), -3);
        }
    }

    private static void trays() {
        check.said("numbers: -2: no such TRAY, sort; -3, and the TRAY stays: n is below 0 or above 40");
        rich("numbers(-1, 0, 1)", x -> x.numbers(-1, 0, 1), -2);
        rich("numbers(4, 0, 1)", x -> x.numbers(4, 0, 1), -2);
        rich("numbers(0, -1, 1)", x -> x.numbers(0, -1, 1), -2);
        rich("numbers(0, 4, 1)", x -> x.numbers(0, 4, 1), -2);
        rich("numbers(0, 4, 41)", x -> x.numbers(0, 4, 41), -2);
        for (int tray = 0; tray < 4; tray++) {
            int t = tray;
            rich("numbers(" + t + ", 0, -1)", x -> x.numbers(t, 0, -1), -3);
            rich("numbers(" + t + ", 3, 41)", x -> x.numbers(t, 3, 41), -3);
        }
        check.said("write: -2: no such TRAY; -6; -7");
        rich("write(-1, 0, 1)", x -> x.write(-1, 0, 1), -2);
        rich("write(4, 0, 1)", x -> x.write(4, 0, 1), -2);
        rich("write(1, 0, 1)", x -> x.write(1, 0, 1), -6);
        rich("write(1, -1, 1)", x -> x.write(1, -1, 1), -6);
        rich("write(0, -1, 1)", x -> x.write(0, -1, 1), -7);
        rich("write(0, 7, 1)", x -> x.write(0, 7, 1), -7);
        rich("write(2, 2, 1)", x -> x.write(2, 2, 1), -7);
        rich("write(3, 11, 1)", x -> x.write(3, 11, 1), -7);
        rich("write(3, 40, 1)", x -> x.write(3, 40, 1), -7);
        empty("write(2, 0, 1)", x -> x.write(2, 0, 1), -7);
        check.said("lists: -2: the TRAY; -6; -3: the blind");
        rich("lists(-1, 0)", x -> x.lists(-1, 0), -2);
        rich("lists(4, 2)", x -> x.lists(4, 2), -2);
        rich("lists(1, 0)", x -> x.lists(1, 0), -6);
        rich("lists(1, 2)", x -> x.lists(1, 2), -6);
        rich("lists(0, 2)", x -> x.lists(0, 2), -3);
        rich("lists(3, -1)", x -> x.lists(3, -1), -3);
        check.said("image: -2; restore: -2; -5: none was made");
        rich("image(-1)", x -> x.image(-1), -2);
        rich("image(2)", x -> x.image(2), -2);
        rich("restore(-1)", x -> x.restore(-1), -2);
        rich("restore(2)", x -> x.restore(2), -2);
        rich("restore(1)", x -> x.restore(1), -5);
        for (int n : FAR) {
            rich("numbers(" + n + ", 0, 1)", x -> x.numbers(n, 0, 1), -2);
            rich("numbers(0, " + n + ", 1)", x -> x.numbers(0, n, 1), -2);
            rich("numbers(0, 0, " + n + ")", x -> x.numbers(0, 0, n), -3);
            rich("write(" + n + ", 0, 1)", x -> x.write(n, 0, 1), -2);
            rich("write(0, " + n + ", 1)", x -> x.write(0, n, 1), -7);
            rich("lists(" + n + ", 0)", x -> x.lists(n, 0), -2);
            rich("lists(0, " + n + ")", x -> x.lists(0, n), -3);
            rich("image(" + n + ")", x -> x.image(n), -2);
            rich("restore(" + n + ")", x -> x.restore(n), -2);
        }
    }

    /** A text with a fault: the tape is empty and fault() tells it; all else stays. */
    private static void faultyTexts() {
        check.said("room: all stays with a FAULT; -30 less the FAULT");
        String[] texts = {"", "wall 1 1;?", "wall 1 1;wall", "wall 4 1;", "wall 1 1;tenant;tenant;tenant;tenant;tenant;",
            "wall 1 1;row 0 9;tenant;in 0;turned 0;face 0;open 1;temper 9;turns : 1 = 1;goes : 1 = 1;temper 10;"};
        int[] kinds = {2, 1, 2, 3, 4, 3};
        for (int i = 0; i < texts.length; i++) {
            RoseWall x = rich();
            RoseWall twin = rich();
            x.room(0);
            twin.room(0);
            Check.feed(x, texts[i]);
            check.due("'" + texts[i] + "'", x.room(texts[i].length()), -30 - kinds[i]);
            x.room(0);
            check.same("'" + texts[i] + "' changes nothing", learnt(x), learnt(twin));
        }
    }

    /** What only asks changes nothing either, whether it is answered or not. */
    private static void questions() {
        check.said("questions change nothing");
        Ask[] asks = {x -> x.fault(0), x -> x.rose(5, 4), x -> x.tenant(2, 3), x -> x.judge(0, 2), x -> x.judge(3, 1), x -> x.lies(99999, 1), x -> x.round(1, 2),
            x -> x.stays(), x -> x.stayBy(99), x -> x.out(), x -> x.outBy(5), x -> x.forces(), x -> x.minds(), x -> x.soonest(63), x -> x.way(3, 0), x -> x.toFace(),
            x -> x.walls(), x -> x.parents(3, 1, 2), x -> x.orphans(0, -1), x -> x.still(1, 0), x -> x.rows(0, 20), x -> x.seen(2), x -> x.seenBy(2, 1), x -> x.whose(2),
            x -> x.tempers(2, 3), x -> x.attempt(2, 0), x -> x.chance(8, 1), x -> x.gone(1), x -> x.best(8), x -> x.count(2)};
        for (int i = 0; i < asks.length; i++) {
            RoseWall x = rich();
            long first = asks[i].of(x);
            check.due("question " + i + " again", asks[i].of(x), first);
            check.same("question " + i, learnt(x), learnt(rich()));
        }
        RoseWall all = rich();
        for (Ask ask : asks) {
            ask.of(all);
        }
        check.same("all questions", learnt(all), learnt(rich()));
    }

    /** learnt() must tell what is not the same, else nothing above is worth anything. */
    private static void differences() {
        check.said("what is looked at tells deeds");
        Ask[] deeds = {x -> x.night(0), x -> x.temper(3), x -> x.temper(2), x -> x.turn(0), x -> x.undo(1), x -> x.image(1), x -> x.image(0), x -> x.restore(0), x -> x.numbers(1, 0, 0),
            x -> x.numbers(2, 0, 2), x -> x.write(0, 6, 21), x -> x.write(2, 0, 4), x -> x.write(3, 10, 22), x -> x.write(3, 0, 1), x -> x.feed(0, 0, 0, 0, 0), x -> x.room(0), x -> x.room(38), x -> x.lists(2, 0),
            x -> x.perform(0), x -> x.season(1, 1), x -> x.nights(1, 1)};
        for (int i = 0; i < deeds.length; i++) {
            RoseWall x = rich();
            deeds[i].of(x);
            check.due("deed " + i + " is seen", learnt(x).equals(learnt(rich())) ? 1 : 0, 0);
        }
    }

    public static void main(String[] args) {
        differences();
        theRoom();
        deeds();
        goingOn();
        walls();
        seen();
        chances();
        trays();
        faultyTexts();
        questions();
        check.end();
    }
}
