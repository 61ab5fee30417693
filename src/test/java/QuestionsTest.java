/** Promises 16 to 39: how it goes on, who is in, walls, what was seen, chances. None of them changes anything. */
public final class QuestionsTest {
    private static final Check check = new Check();
    private static final String GROWTH = "turns : turned = 1 or near > 0 and light = 1;";
    /** Walls grow by open blinds alone: 1, 3, 7; all three drive tenant 0 out. */
    private static final String GROWS = "wall 1 3;tenant patience 2;in 0;turned 0;face 0 1 2;" + GROWTH;
    /** Walls grow each night: 1, 3, 7. */
    private static final String HURRIES = "wall 1 3;tenant patience 2;in 0;turned 0;turns : turned = 1 or near > 0;";
    private static final String EMPTY = "wall 1 3;tenant;turned 0;";

    private static void lies() {
        RoseWall x = Check.told("wall 3 3;turned 4;");
        int[] due = {16, 495, 325, 170, 495, 325, 170};
        for (int n = 0; n < due.length; n++) {
            check.due("lies(" + n + ", 0)", x.lies(n, 0), due[n]);
        }
        check.due("lies(99999, 1)", x.lies(99999, 1), 170);
        check.due("lies(99998, 1)", x.lies(99998, 1), 325);
        check.due("lies(-1, 0)", x.lies(-1, 0), -3);
        check.due("lies(100000, 0)", x.lies(100000, 0), -3);
        check.due("lies(0, 2)", x.lies(0, 2), -3);
        check.due("lies(0, -1)", x.lies(0, -1), -3);
        RoseWall goes = Check.told("wall 1 1;tenant patience 0;in 0;turns : tenant = 0 or tenant = 9 and turned = 0;");
        check.due("who is in has a say: 1", goes.lies(1, 0), 1);
        check.due("nobody has: 0", goes.lies(2, 0), 0);
        check.due("nobody has: 1", goes.lies(3, 0), 1);
    }

    private static void round() {
        RoseWall x = Check.told("wall 3 3;tenant patience 8;turned 4;in 0;");
        int[] due = {1, 3, 8, -1};
        for (int what = 0; what < 4; what++) {
            check.due("round(1, " + what + ")", x.round(1, what), due[what]);
        }
        RoseWall out = Check.told(GROWS);
        int[] open = {2, 1, 3, 2};
        int[] shut = {0, 1, 1, -1};
        for (int what = 0; what < 4; what++) {
            check.due("growing, round(1, " + what + ")", out.round(1, what), open[what]);
            check.due("growing, round(0, " + what + ")", out.round(0, what), shut[what]);
        }
        RoseWall late = Check.told("wall 1 1;tenant;in 0;turned 0;turns : turned = 1;goes : all = 1;");
        check.due("the wall stays, with nobody in", late.round(0, 0), 1);
        check.due("gone", late.round(0, 3), 1);
        check.due("nobody is in", Check.told(EMPTY).round(0, 3), -1);
        check.due("round(0, 4)", out.round(0, 4), -2);
        check.due("round(0, -1)", out.round(0, -1), -2);
        check.due("round(2, 4)", out.round(2, 4), -2);
        check.due("round(2, 0)", out.round(2, 0), -3);
        check.due("round(-1, 3)", out.round(-1, 3), -3);
    }

    private static void staying() {
        RoseWall ever = Check.told(GROWS);
        check.due("for ever", ever.stays(), -1);
        check.due("stayBy(0)", ever.stayBy(0), 0);
        check.due("stayBy(99)", ever.stayBy(99), 0);
        RoseWall once = Check.told(HURRIES);
        check.due("one night", once.stays(), 1);
        check.due("stayBy(0)", once.stayBy(0), 0);
        check.due("stayBy(1)", once.stayBy(1), -1);
        check.due("stayBy(99)", once.stayBy(99), -1);
        RoseWall open = Check.told("wall 1 3;tenant patience 2;in 0;turned 0;turns : turned = 1 or near > 0 and light = 0;");
        check.due("for ever, open", open.stays(), -1);
        for (int i = 0; i < 100; i += 33) {
            check.due("for ever, open: stayBy(" + i + ")", open.stayBy(i), i == 0 ? 0 : 1);
        }
        RoseWall mixed = Check.told("wall 1 3;tenant;in 0;goes : all = 3 or all = 2 and light = 0;turned 0;turns : turned = 1 or near > 0 and [light = 1 or near = 1];");
        check.due("open is the longest", mixed.stays(), 1);
        check.due("open is the longest: stayBy(0)", mixed.stayBy(0), 1);
        check.due("stayBy(-1)", once.stayBy(-1), -3);
        check.due("stayBy(100)", once.stayBy(100), -3);
        RoseWall nobody = Check.told(EMPTY);
        check.due("nobody: stays()", nobody.stays(), -5);
        check.due("nobody: stayBy(0)", nobody.stayBy(0), -5);
        check.due("nobody: stayBy(100)", nobody.stayBy(100), -3);
        RoseWall none = Check.told("wall 1 1;tenant;in 0;goes : 1 = 1;");
        check.due("not one night", none.stays(), 0);
        check.due("not one night: stayBy(0)", none.stayBy(0), -1);
    }

    private static void gettingOut() {
        RoseWall x = Check.told(GROWS);
        check.due("out()", x.out(), 2);
        int[] due = {1, 1, -1};
        for (int i = 0; i < due.length; i++) {
            check.due("outBy(" + i + ")", x.outBy(i), due[i]);
        }
        check.due("outBy(-1)", x.outBy(-1), -3);
        check.due("outBy(2147483647)", x.outBy(2147483647), -1);
        RoseWall never = Check.told("wall 1 1;tenant;in 0;");
        check.due("never: out()", never.out(), -1);
        check.due("never: outBy(0)", never.outBy(0), -1);
        RoseWall nobody = Check.told(EMPTY);
        check.due("nobody: out()", nobody.out(), -5);
        check.due("nobody: outBy(0)", nobody.outBy(0), -5);
        check.due("nobody: outBy(-1)", nobody.outBy(-1), -3);
        RoseWall first = Check.told("wall 1 2;tenant;in 0;turns : cell = 0 and turned = 0 or cell = 1 and light = 1;goes : all = 2 or all = 0;");
        check.due("of like ones the first", first.out(), 1);
        check.due("of like ones the first: outBy(0)", first.outBy(0), 1);
    }

    private static void forcing() {
        RoseWall x = Check.told(GROWS);
        check.due("she opens, it shuts, she opens", x.forces(), 3);
        check.due("minds()", x.minds(), 1);
        RoseWall surely = Check.told(HURRIES);
        check.due("whatever they do", surely.forces(), 2);
        check.due("her first blind", surely.minds(), 0);
        RoseWall never = Check.told("wall 1 2;tenant patience 1;in 0;turns : light = 1 and turned = 0 and [cell = 0 or near = 1] or light = 1 and turned = 1;");
        check.due("it shuts all away", never.forces(), -1);
        check.due("it shuts all away: minds()", never.minds(), -1);
        check.due("though both open would do", never.out(), 2);
        RoseWall nobody = Check.told(EMPTY);
        check.due("nobody: forces()", nobody.forces(), -5);
        check.due("nobody: minds()", nobody.minds(), -5);
    }

    private static void coming() {
        RoseWall x = Check.told(GROWS);
        check.due("soonest(1)", x.soonest(1), 0);
        check.due("soonest(3)", x.soonest(3), 1);
        check.due("soonest(7)", x.soonest(7), 2);
        check.due("soonest(5)", x.soonest(5), -1);
        check.due("soonest(8)", x.soonest(8), -3);
        check.due("soonest(-1)", x.soonest(-1), -3);
        check.due("way(1, 0)", x.way(1, 0), -1);
        check.due("way(7, 0)", x.way(7, 0), 1);
        check.due("way(7, 1)", x.way(7, 1), 1);
        check.due("way(7, 2)", x.way(7, 2), -1);
        check.due("way(5, 0)", x.way(5, 0), -1);
        check.due("way(8, 0)", x.way(8, 0), -3);
        check.due("way(7, -1)", x.way(7, -1), -3);
        check.due("way(5, -1)", x.way(5, -1), -3);
        check.due("toFace()", x.toFace(), 2);
        check.due("walls()", x.walls(), 3);
        x.nights(2, 1);
        check.due("toFace() there", x.toFace(), 0);
        check.due("walls() there", x.walls(), 1);
        check.due("soonest(1) from there", x.soonest(1), -1);
        RoseWall none = Check.told(EMPTY);
        check.due("no face", none.toFace(), -1);
        RoseWall far = Check.told("wall 1 3;face 0 2;turned 0;" + GROWTH);
        check.due("it can't be", far.toFace(), -1);
        RoseWall twice = Check.told("wall 1 1;tenant patience 0;in 0;turns : tenant = 0 and light = 1 or tenant = 9 and light = 0;");
        check.due("whether it still is in or not: walls()", twice.walls(), 2);
        check.due("soonest(0)", twice.soonest(0), 0);
        check.due("soonest(1)", twice.soonest(1), 1);
        RoseWall first = Check.told("wall 1 2;turns : cell = 0 and [turned = 0 or light = 0] or cell = 1 and near = 1 and turned = 0;");
        check.due("of like ones the first: 0", first.way(3, 0), 0);
        check.due("of like ones the first: 1", first.way(3, 1), 0);
        check.due("of like ones the first: 2", first.way(3, 2), -1);
    }

    private static void parents() {
        RoseWall x = Check.told(GROWS);
        int[] open = {1, 0, 0, 1, 0, 0, 1, 5};
        for (int w = 0; w < 8; w++) {
            check.due("parents(" + w + ", 1, -1)", x.parents(w, 1, -1), open[w]);
            check.due("parents(" + w + ", 0, 0)", x.parents(w, 0, 0), 1);
        }
        check.due("orphans(1, 0)", x.orphans(1, 0), 4);
        check.due("orphans(0, -1)", x.orphans(0, -1), 0);
        check.due("still(1, -1)", x.still(1, -1), 2);
        check.due("still(0, 0)", x.still(0, 0), 8);
        int[] bad = {-2, 1, 4, 9};
        for (int t : bad) {
            check.due("parents(0, 0, " + t + ")", x.parents(0, 0, t), -2);
            check.due("parents(8, 2, " + t + ")", x.parents(8, 2, t), -2);
            check.due("orphans(2, " + t + ")", x.orphans(2, t), -2);
            check.due("still(2, " + t + ")", x.still(2, t), -2);
        }
        check.due("parents(8, 0, 0)", x.parents(8, 0, 0), -3);
        check.due("parents(-1, 0, 0)", x.parents(-1, 0, 0), -3);
        check.due("parents(0, 2, 0)", x.parents(0, 2, 0), -3);
        check.due("orphans(2, 0)", x.orphans(2, 0), -3);
        check.due("orphans(-1, -1)", x.orphans(-1, -1), -3);
        check.due("still(2, 0)", x.still(2, 0), -3);
        RoseWall who = Check.told("wall 1 1;tenant;tenant;temper 2;turns : tenant = 1 or tenant = 9 and turned = 0 or temper = 3;");
        int[][] due = {{2, 0, 1}, {0, 2, 1}, {1, 1, 0}};
        for (int t = 0; t < 3; t++) {
            int told = t == 2 ? -1 : t;
            check.due("by tenant: parents(0, 0, " + told + ")", who.parents(0, 0, told), due[t][0]);
            check.due("by tenant: parents(1, 1, " + told + ")", who.parents(1, 1, told), due[t][1]);
            check.due("by tenant: orphans", who.orphans(0, told), t == 2 ? 0 : 1);
            check.due("by tenant: still", who.still(0, told), t == 2 ? 0 : 1);
        }
        who.temper(3);
        check.due("by the temper now", who.parents(1, 0, 0), 2);
        who.undo(1);
        check.due("by the temper again", who.parents(1, 0, 0), 0);
    }

    private static void rows() {
        RoseWall x = Check.told(GROWS);
        int[][] due = {{1, 0, 1}, {3, 0, 0}, {7, 2, 1}, {7, 3, 4}, {3, 3, 3}, {1, 3, 1}, {5, 3, 0}, {7, 20, 1048555}, {3, 20, 20}, {1, 20, 1}};
        for (int[] d : due) {
            check.due("rows(" + d[0] + ", " + d[1] + ")", x.rows(d[0], d[1]), d[2]);
        }
        check.due("all of them", Check.told(EMPTY + "turns : 1 = 1;").rows(7, 20), 1048576);
        check.due("rows(8, 0)", x.rows(8, 0), -3);
        check.due("rows(-1, 0)", x.rows(-1, 0), -3);
        check.due("rows(0, -1)", x.rows(0, -1), -3);
        check.due("rows(0, 21)", x.rows(0, 21), -3);
    }

    private static void refusedSeen(String call, java.util.function.IntUnaryOperator ask) {
        check.due(call + " of tray -1", ask.applyAsInt(-1), -2);
        check.due(call + " of tray 4", ask.applyAsInt(4), -2);
        check.due(call + " of one that is missing", ask.applyAsInt(3), -6);
        check.due(call + " of none", ask.applyAsInt(0), -4);
        check.due(call + " of eleven", ask.applyAsInt(1), -4);
        check.due(call + " of no wall", ask.applyAsInt(2), -3);
    }

    private static void seen() {
        RoseWall x = Check.told(GROWS);
        long[][] walls = {{3, 7}, {-1, 3}, {0}, {-1}, {-1, -1, 7}, {1, 1, 1, 1, 1, 1, 1, 1, 1, 1}, {-1, -1, -1, -1, -1, -1, -1, -1, -1, 7}, {3, 1}};
        int[] many = {1, 2, 0, 2, 4, 1, 1013, 0};
        int[] firstBlind = {1, 0, -1, 0, 0, 0, 0, -1};
        for (int i = 0; i < walls.length; i++) {
            Check.fill(x, 0, walls[i]);
            check.due("seen of " + i, x.seen(0), many[i]);
            check.due("seenBy of " + i, x.seenBy(0, 0), firstBlind[i]);
            check.due("seenBy of " + i + ", not so many", x.seenBy(0, walls[i].length), -1);
            check.due("seenBy of " + i + ", below 0", x.seenBy(0, -1), -3);
        }
        Check.fill(x, 0, -1, -1, 7);
        int[] row = {0, 1, 1};
        for (int i = 0; i < row.length; i++) {
            check.due("the first row: " + i, x.seenBy(0, i), row[i]);
        }
        Check.fill(x, 0);
        Check.fill(x, 1, 8, 8, 8, 8, 8, 8, 8, 8, 8, 8, 8);
        Check.fill(x, 2, 1, 8);
        refusedSeen("seen", tray -> x.seen(tray));
        refusedSeen("seenBy", tray -> x.seenBy(tray, -1));
        refusedSeen("whose", tray -> x.whose(tray));
        refusedSeen("tempers", tray -> x.tempers(tray, -1));
        refusedSeen("attempt", tray -> x.attempt(tray, -1));
        Check.fill(x, 2, -2);
        check.due("-2 is no wall", x.seen(2), -3);
        Check.fill(x, 2, 1L << 32);
        check.due("a long is no wall", x.seen(2), -3);
        x.numbers(2, 0, 1);
        x.write(2, 0, 255);
        check.due("255 of 8 bits isn't seen", x.seen(2), 2);
    }

    private static void whose() {
        RoseWall x = Check.told("wall 1 1;tenant;tenant;tenant;in 0;turns : tenant = 1 or tenant = 9 and light = 1;goes : 1 = 0;");
        Check.fill(x, 0, 1);
        check.due("whose of 1", x.whose(0), 1 << 1 | 1 << 9);
        Check.fill(x, 0, 0);
        check.due("whose of 0", x.whose(0), 1 << 0 | 1 << 2 | 1 << 9);
        Check.fill(x, 0, 1, 0);
        check.due("whose of 1, 0", x.whose(0), 1 << 9);
        Check.fill(x, 0, -1);
        check.due("whose of not seen", x.whose(0), 1 << 9 | 7);
        RoseWall goes = Check.told("wall 1 1;tenant;tenant patience 0;turned 0;turns : tenant = 9;");
        Check.fill(goes, 0, 0, 0, 0);
        check.due("who goes is nobody then", goes.whose(0), 3);
        RoseWall late = Check.told("wall 1 1;tenant;tenant;turned 0;turns : tenant = 9;goes : tenant = 1;");
        Check.fill(late, 0, 0, 1);
        check.due("at first alone", late.whose(0), 2);
    }

    private static void tempers() {
        RoseWall x = Check.told("wall 1 1;temper 1;turns : temper > 4 and light = 1 or temper > 7;");
        Check.fill(x, 0, 1);
        check.due("open", x.tempers(0, 1), 992);
        check.due("shut", x.tempers(0, 0), 768);
        check.due("attempt, of 5 to 9", x.attempt(0, 1), 0);
        check.due("attempt, of 8 and 9", x.attempt(0, 0), 0);
        check.due("tempers(0, 2)", x.tempers(0, 2), -3);
        check.due("tempers(0, -1)", x.tempers(0, -1), -3);
        check.due("attempt(0, 2)", x.attempt(0, 2), -3);
        check.due("attempt(0, -1)", x.attempt(0, -1), -3);
        Check.fill(x, 0, -1);
        check.due("all", x.tempers(0, 0), 1023);
        check.due("attempt, of all", x.attempt(0, 0), 1);
        Check.fill(x, 0, 1, 0);
        check.due("the first night is the lowest bit", x.tempers(0, 1), 224);
        check.due("not so", x.tempers(0, 2), 0);
        check.due("attempt of none", x.attempt(0, 2), -1);
        check.due("attempt of 5 to 7", x.attempt(0, 1), 0);
        Check.fill(x, 0, -1, -1, -1, -1, -1, -1, -1, -1, -1, -1);
        check.due("ten nights", x.tempers(0, 1023), 1023);
        check.due("eleven", x.tempers(0, 1024), -3);
        check.due("the temper stays", x.count(6), 1);
        RoseWall two = Check.told("wall 1 1;turns : temper < 2 and light = 0 or temper = 1;");
        Check.fill(two, 0, 1);
        check.due("0 and 1", two.tempers(0, 0), 3);
        check.due("attempt, to tell 0 from 1", two.attempt(0, 0), 1);
        RoseWall last = Check.told("wall 1 1;turns : temper > 7 and light = 0 or temper = 9;");
        Check.fill(last, 0, 1);
        check.due("8 and 9", last.tempers(0, 0), 768);
        check.due("attempt, to tell 8 from 9", last.attempt(0, 0), 1);
        RoseWall now = Check.told("wall 1 2;tenant;in 0;turns : turned = 0 and temper = cell + light or tenant = 9 and cell = 1;goes : all = 1;");
        Check.fill(now, 0, 1, 2);
        check.due("as who is in, and goes", now.tempers(0, 0), 1);
    }

    private static void chances() {
        RoseWall x = Check.told(GROWS);
        int[] above = {1, 1, 3, 1, 5, 3, 7, 1, 9};
        int[] below = {1, 1, 4, 2, 16, 16, 64, 16, 256};
        for (int n = 0; n <= 8; n++) {
            check.due("chance(" + n + ", 0)", x.chance(n, 0), above[n]);
            check.due("chance(" + n + ", 1)", x.chance(n, 1), below[n]);
        }
        int[][] gone = {{100, 2}, {76, 2}, {75, 3}, {51, 3}, {50, 4}, {31, 5}, {4, 8}, {3, -1}, {0, -1}};
        for (int[] g : gone) {
            check.due("gone(" + g[0] + ")", x.gone(g[0]), g[1]);
        }
        check.due("chance(9, 0)", x.chance(9, 0), -3);
        check.due("chance(-1, 0)", x.chance(-1, 0), -3);
        check.due("chance(9, 2)", x.chance(9, 2), -2);
        check.due("chance(0, -1)", x.chance(0, -1), -2);
        check.due("gone(101)", x.gone(101), -3);
        check.due("gone(-1)", x.gone(-1), -3);
        RoseWall nobody = Check.told(EMPTY);
        check.due("nobody: chance(0, 0)", nobody.chance(0, 0), -5);
        check.due("nobody: chance(9, 0)", nobody.chance(9, 0), -3);
        check.due("nobody: chance(9, 2)", nobody.chance(9, 2), -2);
        check.due("nobody: gone(1)", nobody.gone(1), -5);
        check.due("nobody: gone(101)", nobody.gone(101), -3);
        RoseWall rare = Check.told("wall 1 1;tenant;in 0;open 1;goes : light = 1;");
        check.due("0.9 to the 8", rare.chance(8, 0), 43046721);
        check.due("0.9 to the 8, below", rare.chance(8, 1), 100000000);
        check.due("never open", Check.told("wall 1 1;tenant;in 0;open 0;goes : light = 1;").chance(8, 1), 1);
        RoseWall always = Check.told("wall 1 1;tenant;in 0;open 10;goes : light = 1;");
        check.due("always open", always.chance(1, 0), 0);
        check.due("always open, below", always.chance(1, 1), 1);
        check.due("always open: gone(1)", always.gone(1), 1);
        check.due("always open: gone(0)", always.gone(0), -1);
    }

    private static void best() {
        RoseWall x = Check.told("wall 1 3;tenant patience 0;tenant patience 1;tenant patience 2;tenant;turned 0;" + GROWTH);
        check.due("best(0)", x.best(0), 0);
        check.due("best(1)", x.best(1), 2);
        check.due("best(2)", x.best(2), 3);
        check.due("best(8)", x.best(8), 3);
        check.due("best(9)", x.best(9), -3);
        check.due("best(-1)", x.best(-1), -3);
        RoseWall none = Check.told("wall 1 1;");
        check.due("none: best(0)", none.best(0), -1);
        check.due("none: best(9)", none.best(9), -3);
        RoseWall all = Check.told("wall 1 1;tenant;tenant;in 1;goes : 1 = 1;");
        check.due("of like ones the first", all.best(3), 0);
    }

    /** All questions but tempers and attempt are of the temper now; no answer outlives a deed. */
    private static void ofTheTemperNow() {
        RoseWall x = Check.told("wall 1 1;tenant patience 0;in 0;turns : temper = 1 and light = 1 or temper = 2 and turned = 0 or temper = 3;");
        Check.fill(x, 0, 1);
        int[][] due = {
            // lies shut, lies open, stays, out, forces, soonest(1), walls, orphans shut, still shut, rows(1, 1), seen, whose, chance below, best
            {0, 0, -1, -1, -1, -1, 1, 1, 1, 0, 0, 0, 1, 0},
            {0, 1, -1, 1, 1, 1, 2, 1, 1, 1, 1, 513, 2, 0},
            {1, 1, 0, 1, 1, 1, 2, 0, 0, 2, 2, 513, 1, 0},
            {1, 1, 0, 1, 1, 1, 2, 1, 1, 2, 2, 513, 1, 0}};
        for (int k = 0; k < 12; k++) {
            int temper = (k * 7 + 1) % 4;
            x.temper(temper);
            int[] got = {x.lies(1, 0), x.lies(1, 1), x.stays(), x.out(), x.forces(), x.soonest(1), x.walls(), x.orphans(0, 0), x.still(0, 0),
                x.rows(1, 1), x.seen(0), x.whose(0), x.chance(1, 1), x.best(1)};
            for (int i = 0; i < got.length; i++) {
                check.due("of temper " + temper + ", " + i, got[i], due[temper][i]);
            }
        }
        RoseWall each = Check.told("wall 1 1;tenant patience 0;tenant;turns : temper = 1;");
        check.due("best, of temper 0", each.best(1), 0);
        each.temper(1);
        check.due("best, of temper 1", each.best(1), 1);
        each.undo(1);
        check.due("still, of temper 0", each.still(0, 0), 1);
        check.due("parents, of temper 0", each.parents(1, 0, 0), 0);
        each.temper(1);
        check.due("parents, of temper 1", each.parents(1, 0, 0), 2);
    }

    /** No question changes anything, whatever it is asked. */
    private static void nothingChanges() {
        RoseWall x = Check.told(GROWS + "temper 2;");
        x.night(1);
        Check.fill(x, 0, 3, 7);
        String before = Check.state(x);
        for (int a = -1; a <= 4; a++) {
            x.lies(a, a);
            x.stayBy(a);
            x.outBy(a);
            x.soonest(a);
            x.seen(a);
            x.whose(a);
            x.gone(a);
            x.best(a);
            for (int b = -1; b <= 4; b++) {
                x.round(a, b);
                x.way(a, b);
                x.orphans(a, b);
                x.still(a, b);
                x.rows(a, b);
                x.seenBy(a, b);
                x.tempers(a, b);
                x.attempt(a, b);
                x.chance(a, b);
                x.parents(a, b, a);
            }
        }
        check.due("nothing has changed", Check.state(x).equals(before) ? 1 : 0, 1);
        check.due("stays", x.stays() + x.out() + x.forces() + x.minds() + x.toFace() + x.walls(), -1 + 1 + 1 + 1 + 1 + 2);
        check.due("nothing has changed", Check.state(x).equals(before) ? 1 : 0, 1);
    }

    public static void main(String[] args) {
        lies();
        round();
        staying();
        gettingOut();
        forcing();
        coming();
        parents();
        rows();
        seen();
        whose();
        tempers();
        chances();
        best();
        ofTheTemperNow();
        nothingChanges();
        check.end();
    }
}
