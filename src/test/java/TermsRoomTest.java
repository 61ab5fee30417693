/** Each sentence of 'Terms' behind the text's that names a boundary case: nights, laws, deeds, rows, what is seen, seasons, trays, images. */
public final class TermsRoomTest {
    private static final Check check = new Check();
    private static final String KEEPS = "turns : turned = 1;";

    private static int near(int rows, int columns, int c, int wall) {
        int near = 0;
        for (int r = 0; r < rows; r++) {
            for (int k = 0; k < columns; k++) {
                boolean beside = Math.abs(r - c / columns) <= 1 && Math.abs(k - c % columns) <= 1;
                if (beside && r * columns + k != c && (wall >> r * columns + k & 1) == 1) {
                    near++;
                }
            }
        }
        return near;
    }

    private static void neighbours() {
        check.said("Side by side, one above the other one, slantwise, too, ROSES are NEIGHBOURS (not round the wall's edges)");
        for (int rows = 1; rows <= 3; rows++) {
            for (int columns = 1; columns <= 3; columns++) {
                RoseWall x = Check.told("wall " + rows + " " + columns + ";");
                int roses = rows * columns;
                for (int k = 0; k < roses; k++) {
                    x.turn(k);
                    for (int c = 0; c < roses; c++) {
                        check.due(rows + " " + columns + ": of " + c + ", " + k + " turned", x.rose(c, 2), near(rows, columns, c, 1 << k));
                    }
                    x.turn(k);
                }
                for (int k = 0; k < roses; k++) {
                    x.turn(k);
                }
                for (int c = 0; c < roses; c++) {
                    check.due(rows + " " + columns + ": of " + c + ", all turned", x.rose(c, 2), near(rows, columns, c, (1 << roses) - 1));
                }
            }
        }
        check.said("A WALL is told as bits (ROSE 0 the lowest)");
        RoseWall x = Check.told("wall 3 3;");
        for (int c = 0; c < 9; c++) {
            x.turn(c);
            check.due("the wall, up to " + c, x.count(2), (2 << c) - 1);
            check.due("how many", x.count(4), c + 1);
        }
    }

    private static boolean holds(String room, String law) {
        return Check.told(room + "turns : " + law + ";").rose(0, 3) == 1;
    }

    private static void words() {
        check.said("tenant: the number of the TENANT that is in (9: nobody)");
        String four = "wall 1 1;tenant;tenant;tenant;tenant;";
        check.due("nobody is 9", holds(four, "tenant = 9") ? 1 : 0, 1);
        for (int t = 0; t < 4; t++) {
            check.due("tenant " + t, holds(four + "in " + t + ";", "tenant = " + t) ? 1 : 0, 1);
            RoseWall goes = Check.told(four + "goes : tenant = " + t + ";");
            for (int k = 0; k < 4; k++) {
                check.due("if " + k + " were in, goes by " + t, goes.tenant(k, 2), k == t ? 1 : 0);
            }
        }
        check.said("light: 1 if the blind is open that night, else 0");
        RoseWall light = Check.told("wall 1 1;tenant;turns : light = 1;goes : light = 0;");
        check.due("shut", light.rose(0, 3), 0);
        check.due("open", light.rose(0, 4), 1);
        check.due("goes, shut", light.tenant(0, 2), 1);
        check.due("goes, open", light.tenant(0, 3), 0);

        check.said("cell, kind: the ROSE's, near: how many of its NEIGHBOURS are TURNED, turned: 1 if it is, else 0, temper: the WALL's");
        for (int c = 0; c < 9; c++) {
            RoseWall cell = Check.told("wall 3 3;turns : cell = " + c + ";");
            check.due("cell " + c, cell.lies(1, 0), 1 << c);
            RoseWall near = Check.told("wall 3 3;turns : near = " + c + ";");
            for (int k = 0; k < 9; k++) {
                near.turn(k == 8 ? 4 : k < 4 ? k : k + 1);
                int due = 0;
                for (int r = 0; r < 9; r++) {
                    due |= near(3, 3, r, near.count(2)) == c ? 1 << r : 0;
                }
                check.due("near " + c + ", " + near.count(2), near.lies(1, 0), due);
            }
        }
        for (int n = 0; n < 10; n++) {
            check.due("kind " + n, holds("wall 1 2;row 0 " + n + " 0;", "kind = " + n + " and cell = 0") ? 1 : 0, 1);
            check.due("kind, not " + n, holds("wall 1 2;row 0 " + (n + 1) % 10 + " " + n + ";", "kind = " + n) ? 1 : 0, 0);
            check.due("temper " + n, holds("wall 1 1;temper " + n + ";", "temper = " + n) ? 1 : 0, 1);
            check.due("temper, not " + n, holds("wall 1 1;temper " + (n + 1) % 10 + ";", "temper = " + n) ? 1 : 0, 0);
        }
        check.due("turned", holds("wall 1 1;turned 0;", "turned = 1") ? 1 : 0, 1);
        check.due("not turned", holds("wall 1 1;", "turned = 0") ? 1 : 0, 1);

        check.said("all: how many ROSES are TURNED, patience: the TENANT's");
        for (int n = 0; n <= 9; n++) {
            RoseWall all = Check.told("wall 3 3;tenant;goes : all = " + n + ";");
            for (int k = 0; k <= 9; k++) {
                check.due("all = " + n + ", of " + k, all.tenant(0, 2), k == n ? 1 : 0);
                all.turn(k);
            }
            check.due("patience " + n, Check.told("wall 1 1;tenant patience " + n + ";goes : patience = " + n + ";").tenant(0, 2), 1);
            check.due("patience, not " + n, Check.told("wall 1 1;tenant patience " + (n + 1) % 10 + ";goes : patience = " + n + ";").tenant(0, 2), 0);
        }
        check.said("face: 1 if the WALL is the FACE (without one never), else 0; if they are TURNED and no others");
        RoseWall face = Check.told("wall 1 3;tenant;face 0 2;goes : face = 1;");
        int[] walls = {0, 1, 3, 7, 6, 4, 5};
        int[] turning = {-1, 0, 1, 2, 0, 1, 0};
        for (int i = 0; i < walls.length; i++) {
            if (turning[i] >= 0) {
                face.turn(turning[i]);
            }
            check.due("wall " + walls[i], face.count(2), walls[i]);
            check.due("face of " + walls[i], face.tenant(0, 2), walls[i] == 5 ? 1 : 0);
        }
        RoseWall none = Check.told("wall 1 1;tenant;goes : face = 1;");
        check.due("without one, no rose turned", none.tenant(0, 2), 0);
        none.turn(0);
        check.due("without one, all turned", none.tenant(0, 2), 0);
        check.due("without one: 0", Check.told("wall 1 1;tenant;goes : face = 0;").tenant(0, 2), 1);
    }

    private static void nights() {
        check.said("without one: if 1 to 3 of its NEIGHBOURS are");
        int[] order = {0, 1, 2, 3, 5, 6, 7, 8};
        for (int own = 0; own < 2; own++) {
            RoseWall x = Check.told("wall 3 3;");
            if (own == 1) {
                x.turn(4);
            }
            for (int k = 0; k <= 8; k++) {
                check.due(k + " neighbours turned, shut", x.rose(4, 3), k >= 1 && k <= 3 ? 1 : 0);
                check.due(k + " neighbours turned, open", x.rose(4, 4), k >= 1 && k <= 3 ? 1 : 0);
                check.due(k + " neighbours turned, then", x.lies(1, 0) >> 4 & 1, k >= 1 && k <= 3 ? 1 : 0);
                if (k < 8) {
                    x.turn(order[k]);
                }
            }
        }
        check.said("without one: if more are TURNED than its patience");
        for (int patience = 0; patience <= 9; patience++) {
            RoseWall x = Check.told("wall 3 3;tenant patience " + patience + ";" + KEEPS);
            for (int k = 0; k <= 9; k++) {
                check.due("patience " + patience + ", " + k + " turned, would go", x.tenant(0, 2), k > patience ? 1 : 0);
                x.let(0);
                x.night(1);
                check.due("patience " + patience + ", " + k + " turned, is in", x.count(3), k > patience ? -1 : 0);
                x.turn(k);
            }
        }
        check.said("each ROSE, all at once, as all was ahead; then goes by the WALL then");
        RoseWall row = Check.told("wall 1 3;turned 0;turns : near = 1;");
        check.due("one night", row.night(0), 2);
        check.due("two nights", row.night(0), 5);
        RoseWall then = Check.told("wall 1 1;tenant patience 0;in 0;turned 0;turns : turned = 0;");
        then.night(0);
        check.due("by the wall then, not ahead", then.count(3), 0);
        then.night(0);
        check.due("by the wall then", then.count(3), -1);
        check.said("nobody is in: nobody goes");
        RoseWall nobody = Check.told("wall 1 1;tenant;turned 0;goes : 1 = 1;turns : tenant = 9;");
        check.due("nobody", nobody.night(0), 1);
        check.due("nobody", nobody.count(3), -1);
    }

    private static void why(RoseWall x, long deed, int due) {
        Check.fill(x, 0, deed);
        check.due("why not deed " + deed, x.judge(0, 1), due);
        check.due("where, deed " + deed, x.judge(0, 0), due == 0 ? -1 : 0);
    }

    private static int dueOf(long deed, int roses, int tenants, boolean in) {
        if (deed >= 0 && deed <= 1 || deed >= 20 && deed < 20 + roses || deed >= 30 && deed <= 39) {
            return 0;
        }
        return deed >= 10 && deed < 10 + tenants ? in ? 2 : 0 : 1;
    }

    private static void deeds() {
        check.said("DEEDS in a TRAY: 0, 1; 10 to 19; 20 to 29; 30 to 39; others: 1. Why not: 1 no such, 2 somebody is in");
        String[] rooms = {"wall 3 3;tenant;tenant;tenant;tenant;", "wall 3 3;tenant;tenant;tenant;tenant;in 3;", "wall 1 1;", "wall 1 2;tenant;in 0;", "wall 2 3;tenant;tenant;"};
        for (String text : rooms) {
            RoseWall told = Check.told(text);
            int roses = told.count(0);
            int tenants = told.count(1);
            boolean in = told.count(3) >= 0;
            for (long deed = -3; deed <= 45; deed++) {
                RoseWall x = Check.told(text);
                why(x, deed, dueOf(deed, roses, tenants, in));
            }
            long[] far = {100, 110, 120, 130, 255, 256, 65536, 1L << 32, (1L << 32) + 1, (1L << 32) + 20, (1L << 32) + 30, -(1L << 32), -(1L << 32) + 1, Long.MIN_VALUE, Long.MAX_VALUE, -10, -20, -30, -256};
            for (long deed : far) {
                why(Check.told(text), deed, 1);
            }
        }
        check.said("no such TENANT goes ahead of: somebody is in");
        why(Check.told("wall 1 1;tenant;in 0;"), 10, 2);
        why(Check.told("wall 1 1;tenant;in 0;"), 11, 1);
        check.due("let(0)", Check.told("wall 1 1;tenant;in 0;").let(0), -12);
        check.due("let(1)", Check.told("wall 1 1;tenant;in 0;").let(1), -11);
        check.said("To TURN a ROSE by hand (TURNED or not any more): nobody goes by it");
        RoseWall hand = Check.told("wall 1 1;tenant patience 0;in 0;goes : all = 1;");
        hand.turn(0);
        check.due("still in", hand.count(3), 0);
        hand.turn(0);
        check.due("not any more", hand.count(2), 0);
    }

    private static void undoing() {
        check.said("Calls that did some can be UNDONE, the latest first, 10 at most (eldest are forgotten)");
        RoseWall x = Check.told("wall 1 1;");
        for (int i = 1; i <= 9; i++) {
            x.temper(i);
            check.due("calls", x.count(8), i);
        }
        x.turn(0);
        check.due("the tenth", x.count(8), 10);
        x.temper(0);
        check.due("the eleventh", x.count(8), 10);
        x.temper(5);
        check.due("the twelfth", x.count(8), 10);
        int[] tempers = {0, 9, 9, 8, 7, 6, 5, 4, 3, 2};
        for (int i = 0; i < 10; i++) {
            check.due("undo(1)", x.undo(1), 9 - i);
            check.due("the latest first", x.count(6), tempers[i]);
        }
        check.due("the eldest are forgotten", x.undo(1), -3);
        check.due("they stay done", x.count(6), 2);
        RoseWall ten = Check.told("wall 1 1;");
        for (int i = 0; i < 10; i++) {
            ten.temper((i + 3) % 10);
        }
        check.due("all ten of ten", ten.undo(10), 0);
        check.due("as at first", ten.count(6), 0);
        RoseWall again = Check.told("wall 1 1;");
        for (int i = 0; i < 35; i++) {
            again.temper(i % 10);
            if (i % 3 == 2) {
                again.undo(2);
            }
        }
        check.due("calls 0, 3, .. 30, 33, 34 are left: ten at most", again.count(8), 10);
        check.due("undo(9)", again.undo(9), 1);
        check.due("the temper of call 9", again.count(6), 9);

        check.said("each as a whole: WALL, who is in, TEMPER, NIGHTS");
        RoseWall all = Check.told("wall 1 2;tenant;tenant;in 1;temper 4;turned 0;turns : turned = 0;goes : light = 1;");
        Check.fill(all, 0, 1, 0, 10, 21, 38, 1, 11);
        check.due("perform", all.perform(0), 7);
        check.due("nights", all.count(7), 3);
        check.due("who", all.count(3), 1);
        check.due("temper", all.count(6), 8);
        check.due("undo(1)", all.undo(1), 0);
        int[] due = {2, 2, 1, 1, 1, 0, 4, 0, 0};
        for (int what = 0; what < due.length; what++) {
            check.due("count(" + what + ")", all.count(what), due[what]);
        }
        check.said("Calls that did some: refused ones, and those that did none, can't be UNDONE");
        Check.fill(all, 0, 40);
        all.perform(0);
        Check.fill(all, 1);
        all.perform(1);
        all.night(2);
        all.nights(0, 0);
        all.nights(1, 2);
        all.let(0);
        all.let(7);
        all.turn(2);
        all.temper(10);
        all.season(1, 0);
        all.judge(0, 2);
        all.image(0);
        all.lists(0, 0);
        all.feed(0, 0, 0, 0, 0);
        all.room(20);
        check.due("calls", all.count(8), 0);
        int[] one = {0, 0, 0, 0, 0, 0};
        RoseWall each = Check.told("wall 1 2;tenant;goes : 1 = 0;");
        for (int i = 0; i < one.length; i++) {
            Check.fill(each, 0, 33);
            long done = i == 0 ? each.night(0) : i == 1 ? each.nights(9, 1) : i == 2 ? each.let(0) : i == 3 ? each.turn(0) : i == 4 ? each.temper(0) : each.perform(0);
            check.due("call " + i + " did some (" + done + ")", each.count(8), i + 1);
        }
    }

    private static void staying() {
        check.said("STAYING: the most NIGHTS (for ever, if it can be so), of like ones the first");
        for (int patience = 0; patience <= 6; patience++) {
            RoseWall x = Check.told("wall 2 3;tenant patience " + patience + ";in 0;turns : cell = 0 or near > 0 or turned = 1;");
            int[] turned = {0, 1, 4, 6, 6};
            int due = 0;
            while (due < 4 && turned[due + 1] <= patience) {
                due++;
            }
            check.due("patience " + patience, x.stays(), patience == 6 ? -1 : due);
            check.due("the last night of patience " + patience, x.stayBy(Math.max(0, due - 1)), due == 0 ? -1 : 0);
            check.due("one more of patience " + patience, x.stayBy(patience == 6 ? 99 : due), patience == 6 ? 0 : -1);
        }
        check.said("GETTING OUT: the fewest NIGHTS, of like ones the first");
        RoseWall both = Check.told("wall 1 1;tenant;in 0;goes : 1 = 1;");
        check.due("out()", both.out(), 1);
        check.due("outBy(0)", both.outBy(0), 0);
        RoseWall open = Check.told("wall 1 1;tenant;in 0;goes : light = 1;");
        check.due("outBy(0), open alone", open.outBy(0), 1);
        check.said("COMING to a WALL: (whether it still is in or not)");
        RoseWall gone = Check.told("wall 1 2;tenant patience 0;in 0;turns : tenant = 0 and cell = 0 or tenant = 9 and cell = 1;");
        check.due("soonest(1)", gone.soonest(1), 1);
        check.due("soonest(2), with nobody in", gone.soonest(2), 2);
        check.due("soonest(3)", gone.soonest(3), -1);
        check.due("walls()", gone.walls(), 3);
        check.said("FORCING: by turns, NIGHT by NIGHT, she first; within n NIGHTS, whatever the TENANT does");
        String turns = "wall 1 3;tenant patience 2;in 0;turned 0;turns : turned = 1 or near > 0 and light = 1;";
        check.due("she opens, it shuts, she opens", Check.told(turns).forces(), 3);
        check.due("in one night", Check.told(turns + "turned 1;").forces(), 1);
        check.due("she opens first", Check.told(turns).minds(), 1);
        check.due("though two nights are the fewest", Check.told(turns).out(), 2);
        RoseWall never = Check.told("wall 1 2;tenant patience 1;in 0;turns : light = 1 and [cell = 0 or near = 1];");
        check.due("open twice would do", never.out(), 2);
        check.due("it shuts each second night", never.forces(), -1);
        RoseWall hers = Check.told("wall 1 1;tenant;in 0;goes : light = 0;");
        check.due("hers is the first night", hers.forces(), 1);
        check.due("shut", hers.minds(), 0);
    }

    private static void seen() {
        check.said("SEEN in a TRAY (1 to 10 numbers: WALLS; NONE: not seen)");
        RoseWall x = Check.told("wall 1 2;turns : cell = 0 and light = 1;");
        for (int n = 0; n <= 12; n++) {
            long[] none = new long[n];
            java.util.Arrays.fill(none, -1);
            Check.fill(x, 0, none);
            check.due("seen of " + n, x.seen(0), n < 1 || n > 10 ? -4 : 1 << n);
        }
        for (long v = -3; v <= 6; v++) {
            Check.fill(x, 0, v);
            check.due("seen of " + v, x.seen(0), v < -1 || v > 3 ? -3 : v == -1 ? 2 : v <= 1 ? 1 : 0);
            Check.fill(x, 0, 0, 1, v);
            check.due("seen of 0, 1, " + v, x.seen(0), v < -1 || v > 3 ? -3 : v == -1 ? 2 : v <= 1 ? 1 : 0);
        }
        for (int roses = 1; roses <= 9; roses++) {
            RoseWall wall = Check.told(roses < 4 ? "wall 1 " + roses + ";" : roses == 9 ? "wall 3 3;" : roses == 6 ? "wall 2 3;" : "wall 2 2;");
            int full = (1 << wall.count(0)) - 1;
            Check.fill(wall, 0, full);
            check.due("the full wall", wall.seen(0), 0);
            Check.fill(wall, 0, full + 1);
            check.due("one more", wall.seen(0), -3);
        }
        check.said("TENANTS 0 to 9 (9: nobody, others if told)");
        for (int tenants = 0; tenants <= 4; tenants++) {
            RoseWall w = Check.told("wall 1 1;" + "tenant;".repeat(tenants));
            Check.fill(w, 0, -1);
            check.due("of " + tenants + " tenants", w.whose(0), 512 | (1 << tenants) - 1);
            Check.fill(w, 0, 1);
            check.due("of " + tenants + " tenants, none", w.whose(0), 0);
        }
        check.said("TEMPERS 0 to 9 by a told ROW of blinds (as bits: the first NIGHT the lowest)");
        for (int n = 0; n < 10; n++) {
            RoseWall t = Check.told("wall 1 1;temper 4;turns : temper = " + n + ";");
            Check.fill(t, 0, 1);
            check.due("temper " + n, t.tempers(0, 0), 1 << n);
            check.due("attempt", t.attempt(0, 1), 0);
            Check.fill(t, 0, 0);
            check.due("all but " + n, t.tempers(0, 0), 1023 & ~(1 << n));
        }
        RoseWall bits = Check.told("wall 1 1;turns : light = 1;");
        for (int size = 1; size <= 10; size++) {
            long[] row = new long[size];
            row[size - 1] = 1;
            Check.fill(bits, 0, row);
            check.due("the last of " + size + " open", bits.tempers(0, 1 << size - 1), 1023);
            check.due("all of " + size + " open", bits.tempers(0, (1 << size) - 1), size == 1 ? 1023 : 0);
            check.due("one more than " + size, bits.tempers(0, 1 << size), -3);
            check.due("attempt, one more than " + size, bits.attempt(0, 1 << size), -3);
        }
    }

    private static void chances() {
        check.said("CHANCE: behind n NIGHTS (0 to 8), in lowest terms");
        for (int open = 0; open <= 10; open++) {
            RoseWall x = Check.told("wall 1 1;tenant;in 0;open " + open + ";goes : light = 1;");
            java.math.BigInteger above = java.math.BigInteger.ONE;
            java.math.BigInteger below = java.math.BigInteger.ONE;
            for (int n = 0; n <= 8; n++) {
                java.math.BigInteger common = above.gcd(below);
                check.due("open " + open + ", chance(" + n + ", 0)", x.chance(n, 0), above.divide(common).intValueExact());
                check.due("open " + open + ", chance(" + n + ", 1)", x.chance(n, 1), below.divide(common).intValueExact());
                above = above.multiply(java.math.BigInteger.valueOf(10 - open));
                below = below.multiply(java.math.BigInteger.TEN);
            }
        }
    }

    private static void seasons() {
        check.said("A SEASON: so many times (1 to 40), by DRAWS; as in a TRAY, if it can be");
        int[] seeds = {0, 1, -1, 12345, Integer.MAX_VALUE, Integer.MIN_VALUE, 987654321};
        String[] rooms = {"wall 1 1;", "wall 2 2;tenant;tenant patience 0;", "wall 3 3;tenant;tenant;tenant;tenant;goes : light = 1;"};
        for (String text : rooms) {
            for (int seed : seeds) {
                for (int times : new int[] {1, 2, 39, 40}) {
                    RoseWall x = Check.told(text);
                    RoseWall y = Check.told(text);
                    int due = 0;
                    int drawn = seed;
                    for (int i = 0; i < times; i++) {
                        drawn = 1103515245 * drawn + 12345;
                        int sort = (drawn >>> 16) % 6;
                        drawn = 1103515245 * drawn + 12345;
                        int draw = drawn >>> 16;
                        int got = sort < 3 ? y.night(draw % 2) : sort == 3 ? y.let(draw % 4) : sort == 4 ? y.turn(draw % 9) : y.temper(draw % 10);
                        due += got >= 0 ? 1 : 0;
                    }
                    String call = text + " season(" + seed + ", " + times + ")";
                    check.due(call, x.season(seed, times), due);
                    for (int what = 2; what <= 7; what++) {
                        check.due(call + ", count(" + what + ")", x.count(what), y.count(what));
                    }
                    check.due(call + ", calls", x.count(8), due > 0 ? 1 : 0);
                }
            }
        }
    }

    interface Ask { long of(RoseWall x); }

    /** Each question as the first one behind another temper, another room, an image: no answer of ahead is kept. */
    private static void ofNow() {
        check.said("temper: the WALL's; WALL, who is in, TEMPER as they are now");
        String text = "wall 1 2;tenant patience 0;tenant patience 1;in 0;turned 0;face 0 1;turns : temper = 1 or temper = 0 and turned = 1 and cell = 1;";
        Ask[] asks = {x -> x.rose(1, 3), x -> x.rose(1, 4), x -> x.lies(1, 0), x -> x.round(0, 2), x -> x.stays(), x -> x.stayBy(0), x -> x.out(), x -> x.outBy(0), x -> x.forces(),
            x -> x.minds(), x -> x.soonest(3), x -> x.way(3, 0), x -> x.toFace(), x -> x.parents(3, 0, 0), x -> x.orphans(0, 1), x -> x.still(1, -1), x -> x.rows(3, 1), x -> x.seen(0),
            x -> x.seenBy(0, 0), x -> x.whose(0), x -> x.chance(1, 0), x -> x.gone(50), x -> x.best(1), x -> x.judge(1, 2), x -> x.judge(1, 3)};
        long[] calm = {0, 0, 0, 0, -1, 0, -1, -1, -1, -1, -1, -1, -1, 0, 2, 2, 0, 0, -1, 0, 1, -1, 0, 0, 0};
        long[] hot = {1, 1, 3, 2, 0, -1, 1, 0, 1, 0, 1, 0, 1, 4, 3, 1, 2, 2, 0, 515, 0, 1, 0, 3, -1};
        for (int i = 0; i < asks.length; i++) {
            RoseWall x = Check.told(text);
            Check.fill(x, 0, 3);
            Check.fill(x, 1, 0);
            for (int again = 0; again < 2; again++) {
                check.due("question " + i + ", of temper 0", asks[i].of(x), calm[i]);
                x.temper(1);
                check.due("question " + i + ", of temper 1", asks[i].of(x), hot[i]);
                x.undo(1);
                check.due("question " + i + ", undone", asks[i].of(x), calm[i]);
                x.image(0);
                x.temper(1);
                check.due("question " + i + ", of temper 1", asks[i].of(x), hot[i]);
                x.restore(0);
                check.due("question " + i + ", of the image", asks[i].of(x), calm[i]);
                Check.tell(x, text + "temper 1;");
                check.due("question " + i + ", of another room", asks[i].of(x), hot[i]);
                Check.tell(x, text);
            }
        }
        check.said("TENANTS: who is in now");
        RoseWall who = Check.told("wall 1 1;tenant;tenant;turns : tenant = 1;goes : 1 = 0;");
        check.due("nobody", who.lies(1, 0), 0);
        who.let(0);
        check.due("0", who.lies(1, 0), 0);
        who.undo(1);
        who.let(1);
        check.due("1", who.lies(1, 0), 1);
        check.due("1, as it will be", who.rose(0, 3), 1);
    }

    /** By the law the wall comes to 0 with tenant 0 in, to 2 with nobody in; with tenant 1 in to 1 (shut), to 3 (open), by which it goes. */
    private static void ofWhoIsIn() {
        check.said("tenant: the number of the TENANT that is in: each question is of who is in now");
        String text = "wall 1 2;tenant;tenant;face 0 1;turns : tenant = 1 and [light = 1 or cell = 0] or tenant = 9 and cell = 1;goes : tenant = 1 and all = 2;";
        Ask[] asks = {x -> x.rose(1, 3), x -> x.rose(1, 4), x -> x.lies(1, 0), x -> x.lies(1, 1), x -> x.lies(2, 1), x -> x.round(1, 0), x -> x.round(1, 3), x -> x.stays(),
            x -> x.out(), x -> x.outBy(0), x -> x.forces(), x -> x.minds(), x -> x.soonest(2), x -> x.way(2, 0), x -> x.way(2, 1), x -> x.toFace(), x -> x.walls(),
            x -> x.rows(2, 2), x -> x.seen(0), x -> x.seenBy(0, 0), x -> x.whose(0), x -> x.tempers(0, 1), x -> x.attempt(0, 1), x -> x.chance(1, 0), x -> x.chance(1, 1),
            x -> x.gone(60), x -> x.best(1), x -> x.parents(2, 0, -1), x -> x.orphans(0, 1), x -> x.still(1, 0), x -> x.judge(2, 2), x -> x.judge(2, 3),
            x -> x.lists(1, 0) + x.judge(1, 0), x -> x.lists(1, 1) + x.judge(1, 0), x -> x.night(1), x -> x.nights(3, 1)};
        long[] nobody = {1, 1, 2, 2, 2, 1, -1, -5, -5, -5, -5, -5, 1, 0, -1, -1, 2, 4, 4, 0, 514, 1023, 0, -5, -5, -5, 0, 4, 3, 1, 2, -1, 2, 2, 2, 3};
        long[] first = {0, 0, 0, 0, 0, 0, -1, -1, -1, -1, -1, -1, -1, -1, -1, -1, 1, 0, 0, -1, 514, 0, -1, 1, 1, -1, 0, 4, 3, 1, 0, 0, 1, 1, 0, 3};
        long[] second = {0, 1, 1, 3, 2, 2, 1, -1, 1, 1, 1, 1, 2, 1, 0, 1, 4, 2, 2, 1, 514, 1023, 0, 1, 2, 1, 0, 4, 3, 1, 3, -1, 1, 2, 3, 1};
        long[][] due = {nobody, first, second};
        for (int who = -1; who <= 1; who++) {
            for (int i = 0; i < asks.length; i++) {
                RoseWall x = Check.told(who < 0 ? text : text + "in " + who + ";");
                Check.fill(x, 0, -1, 2);
                Check.fill(x, 1, 0, 0);
                Check.fill(x, 2, 1);
                check.due("question " + i + ", tenant " + who + " in", asks[i].of(x), due[who + 1][i]);
            }
        }
    }

    private static void traysAndImages() {
        check.said("TRAYS 0 to 3 are MISSING at first, or have 0 to 40 numbers of 8 bits (sort 0), 16 (1), 32 (2), 64 (3)");
        for (int tray = -1; tray <= 4; tray++) {
            RoseWall x = new RoseWall();
            check.due("at first, tray " + tray, x.write(tray, 0, 1), tray < 0 || tray > 3 ? -2 : -6);
            for (int sort = -1; sort <= 4; sort++) {
                for (int n = -1; n <= 41; n += n == 1 ? 38 : 1) {
                    boolean no = tray < 0 || tray > 3 || sort < 0 || sort > 3;
                    check.due("numbers(" + tray + ", " + sort + ", " + n + ")", x.numbers(tray, sort, n), no ? -2 : n < 0 || n > 40 ? -3 : 0);
                    if (!no && n >= 0 && n <= 40) {
                        check.due("its last number", x.write(tray, n - 1, 1), n == 0 ? -7 : 1);
                        check.due("one more", x.write(tray, n, 1), -7);
                    }
                }
            }
        }
        check.said("IMAGES 0 to 1 (none at first); nothing can be UNDONE behind");
        for (int i = -1; i <= 2; i++) {
            RoseWall x = Check.told("wall 1 1;");
            boolean no = i < 0 || i > 1;
            check.due("restore(" + i + ") at first", x.restore(i), no ? -2 : -5);
            x.temper(4);
            check.due("image(" + i + ")", x.image(i), no ? -2 : 0);
            x.temper(5);
            check.due("restore of the other one", x.restore(i == 0 ? 1 : 0), -5);
            check.due("restore(" + i + ")", x.restore(i), no ? -2 : 0);
            check.due("calls", x.count(8), no ? 2 : 0);
            check.due("undo(1)", x.undo(1), no ? 1 : -3);
            check.due("temper", x.count(6), 4);
        }
    }

    public static void main(String[] args) {
        neighbours();
        words();
        nights();
        deeds();
        undoing();
        staying();
        seen();
        chances();
        seasons();
        ofNow();
        ofWhoIsIn();
        traysAndImages();
        check.end();
    }
}
