/** Each sentence of promises 1 to 45 that names a boundary case, where it is answered: at its edges, and where there is NONE. */
public final class EdgesTest {
    private static final Check check = new Check();
    /** Open nights turn one rose more: 1, 3, 7. Shut ones turn none. */
    private static final String GROWTH = "turns : turned = 1 or near > 0 and light = 1;";
    private static final String GROWS = "wall 1 3;tenant patience 2;in 0;turned 0;face 0 1 2;" + GROWTH;
    /** From wall 0 on 140 walls come, one behind the other, by any blinds, the last of them 328; then it comes round. */
    private static final String LONG = "wall 3 3;tenant;in 0;face 3 6 8;turns:"
        + "cell=0 and[near*2+turned=1 or near*2+turned=4]"
        + " or cell=1 and[near*2+turned>0 and near*2+turned<3 or near*2+turned=4 or near*2+turned=7 or near*2+turned>8]"
        + " or cell=2 and[near*2+turned=1 or near*2+turned=4 or near*2+turned=6]"
        + " or cell=3 and[near*2+turned=0 or near*2+turned=4 or near*2+turned=6 or near*2+turned>8]"
        + " or cell=4 and[near*2+turned>0 and near*2+turned<3 or near*2+turned>3 and near*2+turned<7 or near*2+turned>7 and near*2+turned<11 or near*2+turned=12]"
        + " or cell=5 and[near*2+turned=1 or near*2+turned>2 and near*2+turned<5 or near*2+turned>6 and near*2+turned<9 or near*2+turned=11]"
        + " or cell=6 and[near*2+turned=1 or near*2+turned>3 and near*2+turned<7]"
        + " or cell=7 and[near*2+turned>3 and near*2+turned<6 or near*2+turned=9]"
        + " or cell=8 and[near*2+turned<2 or near*2+turned>3 and near*2+turned<6]" + ";";
    /** Nothing ever turns, nobody ever goes. */
    private static final String STILL = "wall 3 3;tenant;in 0;turns : turned = 1;goes : 1 = 0;";

    private static void newObject() {
        check.said("1. RoseWall(): 1 ROSE, no TENANTS");
        RoseWall x = new RoseWall();
        int[] counts = {1, 0, 0, -1, 0, 0, 0, 0, 0, 0, 0};
        for (int what = 0; what < counts.length; what++) {
            check.due("count(" + what + ")", x.count(what), counts[what]);
        }
        check.due("fault(0)", x.fault(0), 0);
        check.due("fault(1)", x.fault(1), -1);
        check.due("rose(0, 0)", x.rose(0, 0), 0);
        check.due("rose(1, 0)", x.rose(1, 0), -2);
        check.due("let(0)", x.let(0), -11);
        check.due("turn(0)", x.turn(0), 1);
        check.due("turn(1)", x.turn(1), -11);
        check.due("best(0)", x.best(0), -1);
        RoseWall y = new RoseWall();
        check.due("another object has its own", y.count(2), 0);
        for (int tray = 0; tray < 4; tray++) {
            check.due("tray " + tray + " is missing", y.perform(tray), -6);
        }
        check.due("no image 0", y.restore(0), -5);
        check.due("no image 1", y.restore(1), -5);
    }

    private static void feed() {
        check.said("2. feed: Twenty bytes, the highest of each int first: how many it has. -5: it would have more than 900");
        RoseWall x = new RoseWall();
        check.due("the first", x.feed('w' << 24 | 'a' << 16 | 'l' << 8 | 'l', ' ' << 24 | '1' << 16 | ' ' << 8 | '2', ';' << 24 | 't' << 16 | 'e' << 8 | 'm',
            'p' << 24 | 'e' << 16 | 'r' << 8 | ' ', '7' << 24 | ';' << 16 | ' ' << 8 | '?'), 20);
        check.due("19 of them", x.room(19), 2);
        check.due("roses", x.count(0), 2);
        check.due("temper", x.count(6), 7);
        for (int i = 1; i <= 44; i++) {
            check.due("feed " + i, x.feed(0x20202020, 0x20202020, 0x20202020, 0x20202020, 0x20202020), 20 * i);
        }
        check.due("bytes", x.count(9), 880);
        check.due("the last", x.feed(-1, Integer.MIN_VALUE, Integer.MAX_VALUE, 0, 1), 900);
        check.due("one more", x.feed(0, 0, 0, 0, 0), -5);
        check.due("bytes", x.count(9), 900);
        check.due("one more", x.feed(1, 1, 1, 1, 1), -5);
        check.due("room(900)", x.room(900), -31);
        check.due("byte 880 is the 881st", x.fault(1), 880);
        check.due("from 0 on again", x.feed(0, 0, 0, 0, 0), 20);
        check.due("bytes", x.count(9), 20);
        RoseWall y = new RoseWall();
        Check.feed(y, "wall 1 1;" + "temper 5;".repeat(98) + "temper 6;");
        check.due("a full tape", y.count(9), 900);
        y.feed(0x3f3f3f3f, 0x3f3f3f3f, 0x3f3f3f3f, 0x3f3f3f3f, 0x3f3f3f3f);
        check.due("nothing of the refused bytes is there", y.room(900), 100);
        check.due("its temper", y.count(6), 6);
    }

    private static void room() {
        check.said("3. room: The first n bytes of THE TAPE (which is empty then); -3: n is below 0 or above what there is (THE TAPE stays)");
        for (int n = -1; n <= 21; n++) {
            RoseWall x = new RoseWall();
            Check.feed(x, "wall 1 2;temper 4;  ");
            int due = n < 0 || n > 20 ? -3 : n >= 18 ? 2 : n == 9 ? 1 : -32;
            check.due("room(" + n + ")", x.room(n), due);
            check.due("bytes behind room(" + n + ")", x.count(9), due == -3 ? 20 : 0);
            check.due("roses behind room(" + n + ")", x.count(0), due > 0 ? 2 : 1);
            check.due("again", x.room(20), due == -3 ? 2 : -3);
        }
        RoseWall none = new RoseWall();
        check.due("room(0) of an empty tape", none.room(0), -32);
        check.due("its place", none.fault(1), 0);
        check.due("room(1) of an empty tape", none.room(1), -3);
        check.said("3. room: NIGHTS are 0, nothing can be UNDONE");
        RoseWall x = Check.told(GROWS);
        x.nights(99, 1);
        x.temper(4);
        check.due("another", Check.tell(x, GROWS), 6);
        check.due("nights", x.count(7), 0);
        check.due("calls", x.count(8), 0);
        check.due("undo(1)", x.undo(1), -3);
        check.due("who", x.count(3), 0);
        check.due("wall", x.count(2), 1);
        check.due("temper", x.count(6), 0);
        check.said("3. room: how many LINES (wall, too)");
        check.due("wall alone", Check.tell(x, "wall 1 1;"), 1);
        check.due("lines", x.count(10), 1);
        String most = "wall 1 1;tenant;" + "in 0;".repeat(176);
        check.due("as many as go in", Check.tell(x, most), 178);
        check.due("lines", x.count(10), 178);
        check.said("3. room: all stays with a FAULT; -30 less the FAULT");
        x.night(0);
        String[] faulty = {"wall 2 2;temper 5;?", "wall 2 2;temper 5;wall 1 1;", "wall 2 2;temper 5;temper 10;", "wall 2 2;tenant;tenant;tenant;tenant;tenant;"};
        for (int kind = 1; kind <= 4; kind++) {
            check.due("kind " + kind, Check.tell(x, faulty[kind - 1]), -30 - kind);
            int[] counts = {1, 1, 0, 0, 0, 0, 0, 1, 1, 0, 178};
            for (int what = 0; what < counts.length; what++) {
                check.due("kind " + kind + ": count(" + what + ")", x.count(what), counts[what]);
            }
        }
    }

    private static void fault() {
        check.said("4. fault: Of the latest room() that was read, what 0: its FAULT (0), 1: its place (NONE). NONE for others");
        RoseWall x = new RoseWall();
        check.due("none read", x.fault(0), 0);
        check.due("none read, place", x.fault(1), -1);
        Check.tell(x, "wall 1 1;open 11;");
        for (int again = 0; again < 2; again++) {
            int[] due = {-1, 3, 14, -1, -1};
            for (int what = -1; what <= 3; what++) {
                check.due("fault(" + what + ")", x.fault(what), due[what + 1]);
            }
            check.due("-3 reads none", x.room(-1) + x.room(1), -6);
        }
        Check.tell(x, "wall 1 1;");
        check.due("a good one", x.fault(0), 0);
        check.due("a good one, place", x.fault(1), -1);
        Check.tell(x, "?");
        check.due("place 0", x.fault(1), 0);
        x.image(0);
        x.restore(0);
        check.due("it is no part of an image", x.fault(0), 1);
    }

    private static void roseAndTenant() {
        check.said("5. rose: what 0 to 4. -2");
        RoseWall x = Check.told("wall 2 3;row 1 7 8 9;turned 0;turned 5;turns : light = 1 and turned = 0 or light = 0 and near = 1;");
        int[][] due = {{0, 1, 0, 0, 0}, {0, 0, 2, 0, 1}, {0, 0, 1, 1, 1}, {7, 0, 1, 1, 1}, {8, 0, 2, 0, 1}, {9, 1, 0, 0, 0}};
        for (int c = -1; c <= 6; c++) {
            for (int what = -1; what <= 5; what++) {
                boolean no = c < 0 || c > 5 || what < 0 || what > 4;
                check.due("rose(" + c + ", " + what + ")", x.rose(c, what), no ? -2 : due[c][what]);
            }
        }
        check.said("6. tenant: what 0 to 3. -2");
        RoseWall y = Check.told("wall 1 2;tenant patience 1;tenant patience 0;in 1;turned 0;goes : all > patience or light = 1 and tenant = 0;");
        int[][] tenants = {{1, 0, 0, 1}, {0, 1, 1, 1}};
        for (int t = -1; t <= 2; t++) {
            for (int what = -1; what <= 4; what++) {
                boolean no = t < 0 || t > 1 || what < 0 || what > 3;
                check.due("tenant(" + t + ", " + what + ")", y.tenant(t, what), no ? -2 : tenants[t][what]);
            }
        }
        RoseWall full = Check.told("wall 3 3;tenant;tenant;tenant;tenant;");
        check.due("rose(8, 0)", full.rose(8, 0), 0);
        check.due("rose(9, 0)", full.rose(9, 0), -2);
        check.due("tenant(3, 0)", full.tenant(3, 0), 9);
        check.due("tenant(4, 0)", full.tenant(4, 0), -2);
    }

    private static void nights() {
        check.said("7. night: the blind 0 or 1: the WALL then. -11");
        int[] nights = {-11, 1, 3, -11, -11};
        for (int blind = -1; blind <= 3; blind++) {
            RoseWall x = Check.told(GROWS);
            check.due("night(" + blind + ")", x.night(blind), nights[blind + 1]);
            check.due("nights behind night(" + blind + ")", x.count(7), nights[blind + 1] < 0 ? 0 : 1);
        }
        check.said("8. nights: n NIGHTS (1 to 99): in the how manieth who was in went (n, if it still is, if nobody was)");
        for (int n = -1; n <= 101; n += n == 3 ? 95 : 1) {
            for (int blind = -1; blind <= 2; blind++) {
                RoseWall x = Check.told(GROWS);
                RoseWall nobody = Check.told("wall 1 3;turned 0;" + GROWTH);
                boolean no = n < 1 || n > 99;
                int due = no ? -3 : blind < 0 || blind > 1 ? -11 : blind == 0 ? n : Math.min(n, 2);
                check.due("nights(" + n + ", " + blind + ")", x.nights(n, blind), due);
                check.due("nights behind nights(" + n + ", " + blind + ")", x.count(7), due < 0 ? 0 : n);
                check.due("calls behind nights(" + n + ", " + blind + ")", x.count(8), due < 0 ? 0 : 1);
                check.due("nobody: nights(" + n + ", " + blind + ")", nobody.nights(n, blind), due < 0 ? due : n);
            }
        }
        RoseWall first = Check.told("wall 1 1;tenant;in 0;goes : 1 = 1;");
        check.due("in the first", first.nights(99, 0), 1);
        RoseWall last = Check.told("wall 1 1;tenant;in 0;turns : turned = 0;goes : all = 0;");
        check.due("in the last", last.nights(2, 0), 2);
        check.due("gone", last.count(3), -1);
        check.due("nobody was", last.nights(2, 0), 2);
    }

    private static void byHand() {
        check.said("9. let: how many ROSES are TURNED. -11, -12");
        for (int t = -1; t <= 5; t++) {
            RoseWall x = Check.told("wall 1 3;turned 0;turned 2;tenant;tenant;tenant;tenant;");
            check.due("let(" + t + ")", x.let(t), t < 0 || t > 3 ? -11 : 2);
            check.due("who", x.count(3), t < 0 || t > 3 ? -1 : t);
            check.due("let(" + t + ") again", x.let(t), t < 0 || t > 3 ? -11 : -12);
            check.due("let(0) then", x.let(0), t < 0 || t > 3 ? 2 : -12);
        }
        check.due("none turned", Check.told("wall 1 1;tenant;").let(0), 0);
        check.due("all turned", Check.told("wall 1 2;tenant;turned 0;turned 1;").let(0), 2);
        check.said("10. turn: 1 if it is TURNED then, else 0. -11");
        for (int c = -1; c <= 10; c++) {
            RoseWall x = Check.told("wall 3 3;turned 4;");
            check.due("turn(" + c + ")", x.turn(c), c < 0 || c > 8 ? -11 : c == 4 ? 0 : 1);
            check.due("turn(" + c + ") again", x.turn(c), c < 0 || c > 8 ? -11 : c == 4 ? 1 : 0);
            check.due("wall", x.count(2), 16);
        }
        check.said("11. temper: To have a TEMPER (0 to 9): what it was. -11");
        for (int n = -1; n <= 11; n++) {
            RoseWall x = Check.told("wall 1 1;temper 6;");
            check.due("temper(" + n + ")", x.temper(n), n < 0 || n > 9 ? -11 : 6);
            check.due("temper then", x.count(6), n < 0 || n > 9 ? 6 : n);
            check.due("temper(0)", x.temper(0), n < 0 || n > 9 ? 6 : n);
        }
    }

    private static void undo() {
        check.said("12. undo: n calls (1 to 10) are UNDONE: how many still can be. -3: n, more than can be");
        for (int done = 0; done <= 12; done++) {
            for (int n = -1; n <= 12; n++) {
                RoseWall x = Check.told("wall 1 1;");
                for (int i = 1; i <= done; i++) {
                    x.nights(i, 0);
                }
                int can = Math.min(done, 10);
                boolean no = n < 1 || n > can;
                check.due("undo(" + n + ") of " + done, x.undo(n), no ? -3 : can - n);
                int left = no ? done : done - n;
                check.due("nights behind undo(" + n + ") of " + done, x.count(7), left * (left + 1) / 2);
                check.due("calls behind undo(" + n + ") of " + done, x.count(8), no ? can : can - n);
            }
        }
    }

    private static void judged() {
        check.said("13. judge: what 0: the first place that can't be (NONE), 1: why (0), 2: the WALL then, 3: who is in then (NONE)");
        RoseWall x = Check.told(GROWS);
        long[][] deeds = {{}, {1, 1}, {1, 1, 10}, {10}, {1, 10}, {1, 1, 10, 10}, {2}, {1, 1, 1, 39, 22, 11, 0},
            {29, 1, 1}, {10, 21, 20}, {1, 2, 1, 10}, {1, 1, 19, 10, 22}};
        int[][] due = {{-1, 0, 1, 0}, {-1, 0, 7, -1}, {-1, 0, 7, 0}, {0, 2, 1, 0}, {1, 2, 3, 0}, {3, 2, 7, 0}, {0, 1, 1, 0}, {5, 1, 3, -1},
            {0, 1, 1, 0}, {0, 2, 1, 0}, {1, 1, 3, 0}, {2, 1, 7, -1}};
        for (int i = 0; i < deeds.length; i++) {
            Check.fill(x, 3, deeds[i]);
            for (int what = -1; what <= 4; what++) {
                check.due("judge of " + i + ", " + what, x.judge(3, what), what < 0 || what > 3 ? -2 : due[i][what]);
            }
        }
        long[] forty = new long[40];
        Check.fill(x, 3, forty);
        check.due("forty can be", x.judge(3, 0), -1);
        x.write(3, 39, 99);
        check.due("the fortieth can't be", x.judge(3, 0), 39);
        check.due("why", x.judge(3, 1), 1);
        x.write(3, 0, 98);
        check.due("the first can't be", x.judge(3, 0), 0);

        check.said("14. perform: They are done, till one can't be: how many");
        for (int i = 0; i < deeds.length; i++) {
            RoseWall y = Check.told(GROWS);
            Check.fill(y, 0, deeds[i]);
            int done = due[i][0] == -1 ? deeds[i].length : due[i][0];
            check.due("perform of " + i, y.perform(0), done);
            check.due("wall", y.count(2), due[i][2]);
            check.due("who", y.count(3), due[i][3]);
            check.due("calls", y.count(8), done > 0 ? 1 : 0);
        }
        RoseWall all = Check.told(GROWS);
        Check.fill(all, 1, forty);
        check.due("forty", all.perform(1), 40);
        check.due("nights", all.count(7), 40);

        check.said("15. season: how many could be. -3: how many times");
        for (int times = -1; times <= 42; times += times == 2 ? 36 : 1) {
            RoseWall y = Check.told("wall 3 3;tenant;tenant;tenant;tenant;goes : 1 = 1;");
            int got = y.season(77, times);
            check.due("season(77, " + times + ")", times < 1 || times > 40 ? got : Math.min(0, got), times < 1 || times > 40 ? -3 : 0);
            check.due("not more than " + times, got <= Math.max(0, times) ? 1 : 0, 1);
        }
    }

    private static void lies() {
        check.said("16. lies: The WALL behind n NIGHTS (0 to 99,999), the blind always so. -3: n, the blind");
        RoseWall x = Check.told("wall 3 3;turns : cell = 0 and turned = 0 or cell > 0 and turned = 1;");
        for (int n : new int[] {-1, 0, 1, 2, 99, 100, 1023, 1024, 1025, 99998, 99999, 100000, 100001}) {
            for (int blind = -1; blind <= 2; blind++) {
                check.due("lies(" + n + ", " + blind + ")", x.lies(n, blind), n < 0 || n > 99999 || blind < 0 || blind > 1 ? -3 : n % 2);
            }
        }
        RoseWall late = Check.told(GROWS);
        int[] open = {1, 3, 7, 7};
        for (int n = 0; n < 4; n++) {
            check.due("lies(" + n + ", 1)", late.lies(n, 1), open[n]);
            check.due("lies(" + n + ", 0)", late.lies(n, 0), 1);
        }
        check.said("17. round: what 0 to 3; 3: NONE: never, nobody is. -2: what; -3: the blind");
        int[][] due = {{0, 1, 1, -1}, {2, 1, 3, 2}};
        for (int blind = -1; blind <= 2; blind++) {
            for (int what = -1; what <= 4; what++) {
                int told = what < 0 || what > 3 ? -2 : blind < 0 || blind > 1 ? -3 : due[blind][what];
                check.due("round(" + blind + ", " + what + ")", late.round(blind, what), told);
            }
        }
        check.due("nobody is", x.round(0, 3), -1);
        check.due("at once round", x.round(0, 0), 0);
        check.due("by two", x.round(0, 1), 2);
        check.due("in the first night", Check.told("wall 1 1;tenant;in 0;goes : 1 = 1;").round(0, 3), 1);
        check.due("with who is in: not at once", Check.told("wall 1 1;tenant;in 0;goes : 1 = 1;").round(0, 0), 1);
        RoseWall far = Check.told(LONG + "goes:1=0;");
        check.due("140 walls, then round", far.round(1, 0) + far.round(1, 1), 140);
        check.due("the last of them", far.lies(139, 0), 328);
        check.due("round again", far.lies(140, 1), far.lies(far.round(1, 0), 1));
        check.due("far on", far.lies(99999, 1), far.lies(far.round(1, 0) + (99999 - far.round(1, 0)) % far.round(1, 1), 1));
    }

    private static void staying() {
        check.said("18. stays: how many NIGHTS. NONE: for ever; -5: nobody is in");
        RoseWall x = Check.told(LONG + "goes:face=1;");
        check.due("stays()", x.stays(), 138);
        check.due("for ever", Check.told(LONG + "goes:1=0;").stays(), -1);
        check.due("for ever, if it shuts once", Check.told(LONG + "goes:face=1 and light=1;").stays(), -1);
        RoseWall none = Check.told("wall 1 1;tenant;in 0;goes : 1 = 1;");
        check.due("not one", none.stays(), 0);
        none.night(0);
        check.due("nobody", none.stays(), -5);
        check.said("19. stayBy: NONE: not so many; -3: i is below 0, above 99; -5");
        RoseWall open = Check.told("wall 1 1;tenant;in 0;goes : light = 0;");
        RoseWall once = Check.told("wall 1 1;tenant;in 0;turns : turned = 0;goes : all = 0 or light = 0;");
        for (int i = -2; i <= 101; i++) {
            boolean no = i < 0 || i > 99;
            check.due("138 nights: stayBy(" + i + ")", x.stayBy(i), no ? -3 : 0);
            check.due("for ever: stayBy(" + i + ")", open.stayBy(i), no ? -3 : 1);
            check.due("one night: stayBy(" + i + ")", once.stayBy(i), no ? -3 : i == 0 ? 1 : -1);
            check.due("nobody: stayBy(" + i + ")", none.stayBy(i), no ? -3 : -5);
        }
        RoseWall not = Check.told("wall 1 1;tenant;in 0;goes : 1 = 1;");
        check.due("not one: stayBy(0)", not.stayBy(0), -1);
        check.due("not one: stayBy(99)", not.stayBy(99), -1);
        x.nights(38, 0);
        check.due("100 nights more", x.stays(), 100);
        check.due("the hundredth", x.stayBy(99), 0);
        x.night(1);
        check.due("99 nights more", x.stays(), 99);
        check.due("the 99th", x.stayBy(98), 0);
        check.due("not so many", x.stayBy(99), -1);
        RoseWall late = Check.told(LONG + "goes:face=1 and light=0;");
        late.nights(99, 0);
        late.nights(30, 0);
        check.due("10 nights on it must be open", late.stayBy(8) * 10 + late.stayBy(9), 1);
        check.due("for ever", late.stays(), -1);
    }

    private static void gettingOut() {
        check.said("20. out: NONE: it can't be; -5");
        RoseWall x = Check.told(LONG + "goes:face=1 and light=1;");
        check.due("out()", x.out(), 139);
        check.due("it can't be", Check.told(LONG + "goes:1=0;").out(), -1);
        RoseWall none = Check.told("wall 1 1;tenant;in 0;goes : 1 = 1;");
        check.due("at once", none.out(), 1);
        check.due("at once: outBy(0)", none.outBy(0), 0);
        check.due("at once: outBy(1)", none.outBy(1), -1);
        none.night(0);
        check.due("nobody", none.out(), -5);
        check.said("21. outBy: NONE: not so many, it can't be; -3: i is below 0; -5");
        RoseWall never = Check.told(LONG + "goes:1=0;");
        for (int i = -2; i <= 141; i += i == 1 ? 97 : 1) {
            check.due("outBy(" + i + ")", x.outBy(i), i < 0 ? -3 : i > 138 ? -1 : i == 138 ? 1 : 0);
            check.due("it can't be: outBy(" + i + ")", never.outBy(i), i < 0 ? -3 : -1);
            check.due("nobody: outBy(" + i + ")", none.outBy(i), i < 0 ? -3 : -5);
        }
        check.said("22. forces: NONE: never; -5. 23. minds: NONE: she doesn't; -5");
        check.due("139 nights, the last is hers", Check.told(LONG + "goes:face=1 and light=1;").forces(), 139);
        check.due("her first blind", x.minds(), 0);
        check.due("never", never.forces(), -1);
        check.due("she doesn't", never.minds(), -1);
        check.due("nobody", none.forces(), -5);
        check.due("nobody", none.minds(), -5);
        x.night(0);
        check.due("138 nights, the last is the tenant's: round till it is hers, or never", x.forces() == 138 ? 1 : 0, 0);
        RoseWall last = Check.told("wall 1 1;tenant;in 0;goes : light = 1;");
        check.due("open alone", last.forces(), 1);
        check.due("open alone", last.minds(), 1);
        RoseWall second = Check.told("wall 1 2;tenant patience 1;in 0;turns : cell = 0 or turned = 1 or near = 1 and light = 1;");
        check.due("she can't open the second night", second.forces(), 3);
        check.due("by any blind", second.minds(), 0);
    }

    private static void coming() {
        check.said("24. soonest: NONE: it can't be; -3: others are in the set. 25. way: NONE: not so many, it can't be; -3: the set, i is below 0");
        RoseWall x = Check.told(LONG + "goes:1=0;");
        check.due("now", x.soonest(0), 0);
        check.due("the last", x.soonest(328), 139);
        check.due("512", x.soonest(512), -3);
        check.due("-1", x.soonest(-1), -3);
        int can = 0;
        for (int half = 0; half < 512; half += 256) {
            RoseWall of = Check.told(LONG + "goes:1=0;");
            for (int wall = half; wall < half + 256; wall++) {
                can += of.soonest(wall) >= 0 ? 1 : 0;
            }
        }
        check.due("140 of all can be", can, 140);
        RoseWall y = Check.told(GROWS);
        int[] soonest = {-1, 0, -1, 1, -1, -1, -1, 2};
        for (int wall = -2; wall <= 9; wall++) {
            boolean no = wall < 0 || wall > 7;
            check.due("soonest(" + wall + ")", y.soonest(wall), no ? -3 : soonest[wall]);
            for (int i = -1; i <= 3; i++) {
                check.due("way(" + wall + ", " + i + ")", y.way(wall, i), no || i < 0 ? -3 : i < soonest[wall] ? 1 : -1);
            }
        }
        RoseWall z = Check.told(LONG + "goes:1=0;");
        for (int i : new int[] {-1, 0, 99, 100, 138, 139, 140, 1000}) {
            check.due("way(328, " + i + ")", z.way(328, i), i < 0 ? -3 : i < 139 ? 0 : -1);
        }
        for (int roses = 1; roses <= 3; roses++) {
            RoseWall w = Check.told("wall 3 " + roses + ";");
            int full = (1 << 3 * roses) - 1;
            check.due("the full wall of " + roses, w.soonest(full), -1);
            check.due("one more", w.soonest(full + 1), -3);
            check.due("way to one more", w.way(full + 1, 0), -3);
            check.due("parents of the full wall", w.parents(full, 0, -1) >= 0 ? 1 : 0, 1);
            check.due("parents of one more", w.parents(full + 1, 0, -1), -3);
            check.due("rows to the full wall", w.rows(full, 1), 0);
            check.due("rows to one more", w.rows(full + 1, 1), -3);
        }
        check.said("26. toFace: NONE: it can't be, there is no FACE");
        check.due("far", z.toFace(), 139);
        check.due("no face", Check.told("wall 1 1;").toFace(), -1);
        check.due("it can't be", Check.told("wall 1 1;face 0;").toFace(), -1);
        check.due("now", Check.told("wall 1 1;face 0;turned 0;").toFace(), 0);
        check.due("by open alone", Check.told("wall 1 1;face 0;turns : light = 1;").toFace(), 1);
        check.said("27. walls: How many WALLS can come by some ROW (that there is now, too)");
        check.due("that there is now alone", Check.told("wall 1 1;").walls(), 1);
        check.due("that there is now, and another", Check.told("wall 1 1;turned 0;").walls(), 2);
        check.due("140", z.walls(), 140);
        check.due("all of nine", Check.told("wall 3 3;turned 0;turns : cell = 0 and light = 1 or cell > 0 and turned = 1;").walls(), 2);
        check.due("with somebody in and with nobody, one wall", Check.told("wall 1 1;tenant;in 0;goes : 1 = 1;").walls(), 1);
    }

    private static void walls() {
        check.said("28. parents, 29. orphans, 30. still: with a TENANT in (NONE: nobody). -2: the TENANT; -3: others are in the set, the blind");
        RoseWall x = Check.told("wall 1 2;tenant;tenant;turns : tenant = 9 or tenant = 1 and turned = 1 or tenant = 0 and light = 1 and cell = 0;");
        for (int t = -2; t <= 3; t++) {
            for (int blind = -1; blind <= 2; blind++) {
                boolean no = t < -1 || t > 1;
                int code = no ? -2 : blind < 0 || blind > 1 ? -3 : 0;
                check.due("orphans(" + blind + ", " + t + ")", x.orphans(blind, t), code != 0 ? code : t == 1 ? 0 : 3);
                check.due("still(" + blind + ", " + t + ")", x.still(blind, t), code != 0 ? code : t == 1 ? 4 : 1);
                for (int wall = -1; wall <= 4; wall++) {
                    int told = no ? -2 : wall < 0 || wall > 3 ? -3 : code;
                    int due = t == 1 ? 1 : t == -1 ? wall == 3 ? 4 : 0 : wall == blind ? 4 : 0;
                    check.due("parents(" + wall + ", " + blind + ", " + t + ")", x.parents(wall, blind, t), told != 0 ? told : due);
                }
            }
        }
        RoseWall four = Check.told("wall 3 3;tenant;tenant;tenant;tenant;turns : turned = 1;");
        check.due("the last tenant", four.parents(511, 1, 3), 1);
        check.due("one more", four.parents(511, 1, 4), -2);
        check.due("512 stay", four.still(0, 3), 512);
        check.due("none is an orphan", four.orphans(0, 3), 0);
        RoseWall all = Check.told("wall 3 3;turns : 1 = 0;");
        check.due("all come to 0", all.parents(0, 0, -1), 512);
        check.due("all others are orphans", all.orphans(1, -1), 511);
        check.due("one stays", all.still(1, -1), 1);
        check.said("31. rows: How many ROWS of just n NIGHTS (0 to 20). -3: the set, n");
        RoseWall y = Check.told("wall 1 1;turns : light = 1;");
        for (int n = -1; n <= 22; n++) {
            boolean no = n < 0 || n > 20;
            check.due("rows(0, " + n + ")", y.rows(0, n), no ? -3 : n == 0 ? 1 : 1 << n - 1);
            check.due("rows(1, " + n + ")", y.rows(1, n), no ? -3 : n == 0 ? 0 : 1 << n - 1);
            check.due("rows(2, " + n + ")", y.rows(2, n), -3);
            check.due("rows(-1, " + n + ")", y.rows(-1, n), -3);
            check.due("all of them: rows(511, " + n + ")", Check.told("wall 3 3;turns : 1 = 1;").rows(511, n), no ? -3 : n == 0 ? 0 : 1 << n);
        }
    }

    private static void seen() {
        check.said("32. seen: how many ROWS. -4: not 1 to 10 numbers; -3: one is no WALL, nor NONE");
        RoseWall x = Check.told(GROWS);
        for (int n = 0; n <= 12; n++) {
            long[] ones = new long[n];
            java.util.Arrays.fill(ones, 1);
            Check.fill(x, 0, ones);
            check.due("seen of " + n, x.seen(0), n < 1 || n > 10 ? -4 : 1);
            check.due("whose of " + n, x.whose(0), n < 1 || n > 10 ? -4 : 513);
            check.due("tempers of " + n, x.tempers(0, 0), n < 1 || n > 10 ? -4 : 1023);
            check.due("attempt of " + n, x.attempt(0, 0), n < 1 || n > 10 ? -4 : 0);
            check.said("33. seenBy: NONE: not so many, there are none; as seen(); -3: also i is below 0");
            for (int i = -1; i <= 11; i++) {
                check.due("seenBy(0, " + i + ") of " + n, x.seenBy(0, i), n < 1 || n > 10 ? -4 : i < 0 ? -3 : i < n ? 0 : -1);
            }
            check.said("32. seen: how many ROWS. -4: not 1 to 10 numbers; -3: one is no WALL, nor NONE");
        }
        for (long v = -3; v <= 9; v++) {
            Check.fill(x, 0, 3, v);
            int due = v < -1 || v > 7 ? -3 : v == -1 ? 2 : v == 3 || v == 7 ? 1 : 0;
            check.due("seen of 3, " + v, x.seen(0), due);
            check.due("seenBy of 3, " + v, x.seenBy(0, 1), due == -3 ? -3 : due == 0 ? -1 : v == 7 ? 1 : 0);
            check.due("whose of 3, " + v, x.whose(0), due == -3 ? -3 : due == 0 ? 0 : 513);
            check.due("tempers of 3, " + v, x.tempers(0, 1), due == -3 ? -3 : v == -1 || v == 3 ? 1023 : 0);
            check.due("attempt of 3, " + v, x.attempt(0, 1), due == -3 ? -3 : v == -1 || v == 3 ? 0 : -1);
        }
        x.numbers(1, 0, 2);
        x.write(1, 0, 255);
        x.write(1, 1, 256 + 7);
        check.due("numbers as they are there: NONE, 7", x.seen(1), 1);
        check.said("34. whose: TENANTS, as bits (bit 9: nobody)");
        RoseWall w = Check.told("wall 1 1;tenant;tenant;tenant;tenant;in 2;turns : tenant = 3 or tenant = 9;goes : 1 = 0;");
        Check.fill(w, 0, 1);
        check.due("3 and nobody", w.whose(0), 520);
        Check.fill(w, 0, 0);
        check.due("0 to 2", w.whose(0), 7);
        Check.fill(w, 0, 0, 1);
        check.due("none", w.whose(0), 0);
        check.said("35. tempers, 36. attempt: -3: also others are in the set of blinds; NONE: there are none");
        RoseWall t = Check.told("wall 1 1;turns : temper * light = 9;");
        for (int n = 1; n <= 10; n++) {
            long[] none = new long[n];
            java.util.Arrays.fill(none, -1);
            Check.fill(t, 0, none);
            for (int blinds : new int[] {Integer.MIN_VALUE, -1, 0, (1 << n) - 1, 1 << n, (1 << n) + 1}) {
                boolean no = blinds < 0 || blinds >= 1 << n;
                check.due("tempers(0, " + blinds + ") of " + n, t.tempers(0, blinds), no ? -3 : 1023);
                check.due("attempt(0, " + blinds + ") of " + n, t.attempt(0, blinds), no ? -3 : 1);
            }
        }
        Check.fill(t, 0, 1);
        check.due("9 alone", t.tempers(0, 1), 512);
        check.due("of one: the first", t.attempt(0, 1), 0);
        check.due("none", t.tempers(0, 0), 0);
        check.due("there are none", t.attempt(0, 0), -1);
        Check.fill(t, 0, 0);
        check.due("0 to 8", t.tempers(0, 1), 511);
        check.due("of like ones the first", t.attempt(0, 1), 0);
        RoseWall two = Check.told("wall 1 2;turns : light = 0 and temper > 4 or light = 1 and temper > 2 * cell + 3;");
        Check.fill(two, 0, -1);
        check.due("five and five, shut; four, two and four, open", two.attempt(0, 0), 1);
        check.said("36. attempt: The blind of one NIGHT from now on to try next (not from behind the NIGHTS that were seen)");
        RoseWall shut = Check.told("wall 1 1;turns : turned = 0 and [light = 1 or temper > 4] or turned = 1 and light = 1 and temper > 6;");
        RoseWall open = Check.told("wall 1 1;turns : turned = 0 and [light = 0 or temper > 4] or turned = 1 and light = 0 and temper > 6;");
        Check.fill(shut, 0, 1);
        Check.fill(open, 0, 1);
        check.due("all, by one night open", shut.tempers(0, 1), 1023);
        check.due("five and five, shut, from now on", shut.attempt(0, 1), 0);
        check.due("all, by one night shut", open.tempers(0, 0), 1023);
        check.due("five and five, open, from now on", open.attempt(0, 0), 1);
        check.said("36. attempt: the greatest number of these TEMPERS by which the WALL is the same then is least");
        String coarse = "[cell = 0 and temper > 3 and temper < 8 or cell = 1 and temper > 7]";
        String fine = "[cell = 0 and [temper = 5 or temper = 7 or temper = 9] or cell = 1 and [temper = 6 or temper = 7] or cell = 2 and temper > 7]";
        for (int blind = 0; blind < 2; blind++) {
            RoseWall most = Check.told("wall 1 3;turns : light = " + blind + " and " + coarse + " or light = " + (1 - blind) + " and " + fine + ";");
            Check.fill(most, 0, -1);
            check.due("four, four, two goes ahead of five and five alone: the greatest number counts", most.attempt(0, 0), blind);
        }
    }

    private static void chances() {
        check.said("37. chance: what 0: the number above, 1: below. -2: what; -3: n; -5: nobody is in");
        RoseWall x = Check.told(GROWS);
        int[] above = {1, 1, 3, 1, 5, 3, 7, 1, 9};
        int[] below = {1, 1, 4, 2, 16, 16, 64, 16, 256};
        RoseWall nobody = Check.told("wall 1 1;tenant;");
        for (int n = -2; n <= 10; n++) {
            for (int what = -1; what <= 2; what++) {
                int code = what < 0 || what > 1 ? -2 : n < 0 || n > 8 ? -3 : 0;
                check.due("chance(" + n + ", " + what + ")", x.chance(n, what), code != 0 ? code : what == 0 ? above[n] : below[n]);
                check.due("nobody: chance(" + n + ", " + what + ")", nobody.chance(n, what), code != 0 ? code : -5);
            }
        }
        check.said("38. gone: The fewest NIGHTS (0 to 8) behind which CHANCE is below m in 100 (0 to 100). NONE: in none; -3; -5");
        RoseWall half = Check.told("wall 1 1;tenant;in 0;goes : light = 1;");
        RoseWall sure = Check.told("wall 1 1;tenant;in 0;goes : 1 = 1;");
        RoseWall ever = Check.told(STILL);
        for (int m = -2; m <= 103; m++) {
            boolean no = m < 0 || m > 100;
            int due = m > 50 ? 1 : m > 25 ? 2 : m > 12 ? 3 : m > 6 ? 4 : m > 3 ? 5 : m > 1 ? 6 : m > 0 ? 7 : -1;
            check.due("half: gone(" + m + ")", half.gone(m), no ? -3 : due);
            check.due("at once: gone(" + m + ")", sure.gone(m), no ? -3 : m == 0 ? -1 : 1);
            check.due("never: gone(" + m + ")", ever.gone(m), no ? -3 : -1);
            check.due("nobody: gone(" + m + ")", nobody.gone(m), no ? -3 : -5);
        }
        RoseWall eight = Check.told("wall 1 1;tenant;in 0;open 1;goes : light = 1;");
        check.due("0.9 to the 8 is 43 in 100", eight.gone(44), 8);
        check.due("not below 43", eight.gone(43), -1);
        check.said("39. best: The TENANT who would likeliest still be in, the first. NONE: there are none; -3");
        for (int tenants = 0; tenants <= 4; tenants++) {
            RoseWall y = Check.told("wall 1 1;" + "tenant;".repeat(tenants) + "goes : light = 1 and tenant < 3;");
            for (int n = -1; n <= 9; n++) {
                int due = tenants == 0 ? -1 : tenants == 4 && n > 0 ? 3 : 0;
                check.due("of " + tenants + ": best(" + n + ")", y.best(n), n < 0 || n > 8 ? -3 : due);
            }
        }
        RoseWall all = Check.told("wall 1 1;tenant;tenant;in 1;goes : 1 = 1;");
        check.due("none would still be in: the first", all.best(1), 0);
    }

    private static void trays() {
        check.said("40. numbers: A TRAY has n numbers of a sort, all 0 (in place of another one): 0. -3, and the TRAY stays: n is below 0 or above 40");
        RoseWall x = Check.told(STILL);
        for (int n : new int[] {0, 1, 39, 40}) {
            check.due("numbers(3, 2, " + n + ")", x.numbers(3, 2, n), 0);
            check.due("all 0: nights", x.perform(3), n);
            check.due("too many", x.numbers(3, 0, 41), -3);
            check.due("too few", x.numbers(3, 0, -1), -3);
            check.due("it stays", x.perform(3), n);
            check.due("its sort stays", x.write(3, n - 1, 300), n == 0 ? -7 : 300);
            check.due("its number stays", x.write(3, n, 300), -7);
        }
        check.said("41. write: cut to its sort: as it is there");
        long[] values = {0, 1, -1, 127, 128, -128, -129, 255, 256, 32767, 32768, -32768, -32769, 65535, 65536, 2147483647L, 2147483648L, -2147483648L, -2147483649L, 4294967295L, 4294967296L, Long.MAX_VALUE, Long.MIN_VALUE};
        RoseWall y = Check.told(STILL);
        for (int sort = 0; sort < 4; sort++) {
            y.numbers(sort, sort, 40);
            for (long v : values) {
                long due = sort == 0 ? (byte) v : sort == 1 ? (short) v : sort == 2 ? (int) v : v;
                check.due("sort " + sort + ", " + v, y.write(sort, 39, v), due);
            }
        }
        y.write(0, 0, 256 + 20);
        check.due("what is there counts", y.judge(0, 2), 1);
        check.said("42. lists: as many as it has places: how many");
        RoseWall z = Check.told("wall 3 3;turned 4;");
        for (int n : new int[] {0, 1, 39, 40}) {
            z.numbers(1, 1, n);
            check.due("lists of " + n, z.lists(1, 0), n);
        }
        z.numbers(1, 1, 10);
        z.lists(1, 1);
        check.due("behind 1, 2, 3 .. nights", z.seen(1), 1024);
        z.write(1, 9, 16);
        check.due("the tenth was another", z.seen(1), 0);
        z.numbers(1, 0, 1);
        z.lists(1, 0);
        check.due("495 cut to 8 bits is -17", z.seen(1), -3);
        RoseWall light = Check.told("wall 1 1;turns : light = 1;");
        light.numbers(0, 0, 2);
        light.lists(0, 1);
        check.due("open", light.seenBy(0, 1), 1);
        light.lists(0, 0);
        check.due("shut", light.seenBy(0, 1), 0);
        check.due("nothing is done by it", light.count(7) + light.count(8), 0);
    }

    private static void images() {
        check.said("43. image: An IMAGE is made: 0. -2. 44. restore: All that is in an IMAGE is as it was: 0. -2; -5: none was made");
        RoseWall x = Check.told(GROWS + "temper 3;");
        for (int i = -1; i <= 2; i++) {
            check.due("restore(" + i + ") at first", x.restore(i), i < 0 || i > 1 ? -2 : -5);
        }
        x.nights(2, 1);
        for (int i = -1; i <= 2; i++) {
            check.due("image(" + i + ")", x.image(i), i < 0 || i > 1 ? -2 : 0);
            check.due("restore of none", i < 1 ? x.restore(1) : -5, -5);
            if (i == 0) {
                x.let(0);
            }
        }
        Check.tell(x, "wall 3 3;row 0 1 2 3;tenant patience 1;tenant;in 1;turned 8;temper 9;open 10;turns : 1 = 1;goes : 1 = 1;");
        x.night(0);
        check.due("restore(0)", x.restore(0), 0);
        int[] counts = {3, 1, 7, -1, 3, 7, 3, 2, 0, 0, 7};
        for (int what = 0; what < counts.length; what++) {
            check.due("count(" + what + ")", x.count(what), counts[what]);
        }
        check.due("restore(1)", x.restore(1), 0);
        check.due("who", x.count(3), 0);
        check.due("its law", x.lies(1, 0), 7);
        check.due("its patience", x.tenant(0, 0), 2);
        check.due("its kinds", x.rose(0, 0), 0);
        check.due("its chance", x.chance(1, 0), 0);
        x.undo(1);
        check.due("nothing can be undone behind", x.undo(1), -3);
        x.temper(8);
        check.due("what is done behind can", x.undo(1), 0);
        check.due("temper", x.count(6), 3);
    }

    /** Both images and the room are of different texts, and a fourth one is read. */
    private static void imagesAndFaults() {
        check.said("3. room: all stays with a FAULT, images of other rooms, too");
        RoseWall x = new RoseWall();
        for (int first = 0; first < 3; first++) {
            Check.tell(x, "wall 1 1;row 0 1;temper 1;turns : temper = 1;");
            x.image(first % 2);
            Check.tell(x, "wall 1 2;row 0 2 2;tenant patience 2;temper 2;turns : temper = 2;");
            x.image(1 - first % 2);
            Check.tell(x, "wall 1 3;row 0 3 3 3;tenant;tenant patience 3;in 1;face 2;temper 3;turns : temper = 3;goes : light = 1;");
            check.due("a fault", Check.tell(x, "wall 3 3;row 0 9 9 9;tenant patience 0;face 0;temper 4;open 10;turns : 1 = 0;goes : 1 = 1;?"), -31);
            int[] due = {x.count(0), 3, x.count(1), 2, x.count(5), 4, x.rose(1, 0), 3, x.tenant(1, 0), 3, x.lies(1, 0), 7, x.chance(1, 1), 2, x.tenant(1, 2), 0};
            for (int i = 0; i < due.length; i += 2) {
                check.due("of the room, " + i, due[i], due[i + 1]);
            }
            x.restore(first % 2);
            int[] one = {x.count(0), 1, x.count(1), 0, x.rose(0, 0), 1, x.lies(1, 0), 1, x.count(10), 4};
            for (int i = 0; i < one.length; i += 2) {
                check.due("of the first image, " + i, one[i], one[i + 1]);
            }
            x.restore(1 - first % 2);
            int[] two = {x.count(0), 2, x.count(1), 1, x.rose(1, 0), 2, x.tenant(0, 0), 2, x.lies(1, 0), 3, x.count(10), 5};
            for (int i = 0; i < two.length; i += 2) {
                check.due("of the other image, " + i, two[i], two[i + 1]);
            }
        }
    }

    private static void counts() {
        check.said("45. count: 0 to 10. NONE for others; who is in (NONE), the FACE (0: none)");
        RoseWall x = Check.told("wall 3 3;tenant;tenant;tenant;tenant;in 3;face 8;temper 9;turned 0;turned 8;turns : turned = 1;");
        x.nights(99, 0);
        x.feed(0, 0, 0, 0, 0);
        int[] due = {9, 4, 257, 3, 2, 256, 9, 99, 1, 20, 11};
        for (int what = -2; what <= 13; what++) {
            check.due("count(" + what + ")", x.count(what), what < 0 || what > 10 ? -1 : due[what]);
        }
        RoseWall none = Check.told("wall 1 1;tenant;");
        check.due("who: none", none.count(3), -1);
        check.due("face: none", none.count(5), 0);
        RoseWall many = Check.told("wall 1 1;");
        for (int i = 0; i < 40; i++) {
            many.nights(99, 1);
        }
        check.due("nights", many.count(7), 3960);
        check.due("calls", many.count(8), 10);
        check.due("NONE", RoseWall.NONE, -1);
    }

    public static void main(String[] args) {
        newObject();
        feed();
        room();
        fault();
        roseAndTenant();
        nights();
        byHand();
        undo();
        judged();
        lies();
        staying();
        gettingOut();
        coming();
        walls();
        seen();
        chances();
        trays();
        images();
        imagesAndFaults();
        counts();
        check.end();
    }
}
