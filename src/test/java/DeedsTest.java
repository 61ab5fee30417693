/** Promises 7 to 15: nights, tenants let in, roses turned, the temper, undone, judged, performed, seasons. */
public final class DeedsTest {
    private static final Check check = new Check();
    /** Walls grow by open blinds alone: 1, 3, 7. */
    private static final String GROWS = "wall 1 3;tenant patience 2;tenant patience 1;in 0;turned 0;"
        + "turns : turned = 1 or near > 0 and light = 1;";

    /** The call that was made just now was refused: nothing has changed. */
    private static void unchanged(String call, RoseWall x, String before) {
        check.due(call + " changes nothing", Check.state(x).equals(before) ? 1 : 0, 1);
    }

    private static void night() {
        RoseWall x = Check.told("wall 3 3;tenant patience 7;in 0;turned 4;");
        check.due("night(0)", x.night(0), 495);
        check.due("it went", x.count(3), -1);
        check.due("night(1)", x.night(1), 325);
        check.due("nights", x.count(7), 2);
        String before = Check.state(x);
        check.due("night(2)", x.night(2), -11);
        check.due("night(-1)", x.night(-1), -11);
        check.due("night(11)", x.night(11), -11);
        unchanged("night(2)", x, before);
        RoseWall y = Check.told("wall 3 3;tenant patience 8;in 0;turned 4;");
        y.night(0);
        check.due("as many as its patience", y.count(3), 0);
        RoseWall light = Check.told(GROWS);
        check.due("shut", light.night(0), 1);
        check.due("open", light.night(1), 3);
        check.due("open", light.night(1), 7);
        check.due("it went by the wall then", light.count(3), -1);
        RoseWall once = Check.told("wall 1 2;turned 0;turns : near = 1;");
        check.due("all at once", once.night(0), 2);
        RoseWall law = Check.told("wall 1 1;tenant;in 0;turns : tenant = 0;goes : all = 1 and light = 1;");
        law.night(0);
        check.due("the light of that night", law.count(3), 0);
        law.night(1);
        check.due("the light of that night, open", law.count(3), -1);
        check.due("nobody is 9", law.night(0), 0);
    }

    private static void nights() {
        RoseWall x = Check.told(GROWS);
        check.due("nights(5, 0)", x.nights(5, 0), 5);
        check.due("still in", x.count(3), 0);
        check.due("nights(5, 1)", x.nights(5, 1), 2);
        check.due("nights", x.count(7), 10);
        check.due("nobody was", x.nights(99, 1), 99);
        check.due("nights", x.count(7), 109);
        check.due("calls", x.count(8), 3);
        String before = Check.state(x);
        check.due("nights(0, 0)", x.nights(0, 0), -3);
        check.due("nights(100, 0)", x.nights(100, 0), -3);
        check.due("nights(0, 2)", x.nights(0, 2), -3);
        check.due("nights(1, 2)", x.nights(1, 2), -11);
        check.due("nights(99, -1)", x.nights(99, -1), -11);
        unchanged("nights(1, 2)", x, before);
        check.due("undo as a whole", x.undo(2), 1);
        check.due("nights", x.count(7), 5);
        check.due("in the last one", x.nights(2, 1), 2);
        check.due("gone", x.count(3), -1);
    }

    private static void let() {
        RoseWall x = Check.told(GROWS + "turned 2;");
        String before = Check.state(x);
        check.due("let(1)", x.let(1), -12);
        check.due("let(0), who is in", x.let(0), -12);
        check.due("let(2)", x.let(2), -11);
        check.due("let(-1)", x.let(-1), -11);
        check.due("let(10)", x.let(10), -11);
        check.due("let(20)", x.let(20), -11);
        unchanged("let(1)", x, before);
        x.nights(1, 1);
        check.due("gone", x.count(3), -1);
        check.due("let(1)", x.let(1), 3);
        check.due("in", x.count(3), 1);
        check.due("nights stay", x.count(7), 1);
        check.due("calls", x.count(8), 2);
    }

    private static void turn() {
        RoseWall x = Check.told(GROWS);
        check.due("turn(2)", x.turn(2), 1);
        check.due("wall", x.count(2), 5);
        check.due("turn(0)", x.turn(0), 0);
        check.due("wall", x.count(2), 4);
        String before = Check.state(x);
        check.due("turn(3)", x.turn(3), -11);
        check.due("turn(-1)", x.turn(-1), -11);
        check.due("turn(10)", x.turn(10), -11);
        check.due("turn(-11)", x.turn(-11), -11);
        unchanged("turn(3)", x, before);
        x.turn(0);
        x.turn(1);
        check.due("nobody goes by hand", x.count(3), 0);
        check.due("all turned", x.count(4), 3);
    }

    private static void temper() {
        RoseWall x = Check.told("wall 1 1;temper 4;turns : temper = 9;");
        check.due("temper(9)", x.temper(9), 4);
        check.due("temper(9) again", x.temper(9), 9);
        check.due("calls", x.count(8), 2);
        check.due("the law", x.night(0), 1);
        String before = Check.state(x);
        check.due("temper(10)", x.temper(10), -11);
        check.due("temper(-1)", x.temper(-1), -11);
        check.due("temper(-30)", x.temper(-30), -11);
        unchanged("temper(10)", x, before);
        check.due("temper(0)", x.temper(0), 9);
        check.due("the law", x.night(0), 0);
    }

    private static void undo() {
        RoseWall x = Check.told(GROWS + "temper 3;");
        check.due("undo(1) of none", x.undo(1), -3);
        x.nights(2, 1);
        x.let(1);
        x.temper(5);
        x.turn(1);
        check.due("calls", x.count(8), 4);
        String before = Check.state(x);
        check.due("undo(5)", x.undo(5), -3);
        check.due("undo(0)", x.undo(0), -3);
        check.due("undo(-1)", x.undo(-1), -3);
        check.due("undo(11)", x.undo(11), -3);
        unchanged("undo(5)", x, before);
        check.due("undo(1)", x.undo(1), 3);
        check.due("wall", x.count(2), 7);
        check.due("temper", x.count(6), 5);
        check.due("undo(2)", x.undo(2), 1);
        check.due("temper", x.count(6), 3);
        check.due("nobody", x.count(3), -1);
        check.due("undo(1)", x.undo(1), 0);
        check.due("wall", x.count(2), 1);
        check.due("in", x.count(3), 0);
        check.due("nights", x.count(7), 0);
        for (int i = 0; i < 13; i++) {
            x.temper(i % 10);
        }
        check.due("ten at most", x.count(8), 10);
        check.due("undo(11)", x.undo(11), -3);
        check.due("undo(10)", x.undo(10), 0);
        check.due("the eldest are forgotten", x.count(6), 2);
        check.due("undo(1)", x.undo(1), -3);
        x.night(0);
        Check.tell(x, "wall 1 1;");
        check.due("not behind a room", x.undo(1), -3);
    }

    private static void judge() {
        RoseWall x = Check.told(GROWS);
        String before = Check.state(x);
        check.due("judge(-1, 0)", x.judge(-1, 0), -2);
        check.due("judge(4, 0)", x.judge(4, 0), -2);
        check.due("judge(0, -1)", x.judge(0, -1), -2);
        check.due("judge(0, 4), missing", x.judge(0, 4), -2);
        check.due("judge(0, 0), missing", x.judge(0, 0), -6);
        long[][] deeds = {{}, {1, 1, 11}, {0, 10}, {1, 1, 12}, {1, 1, 11, 1, 1, 20, 13}, {23}, {2}, {9}, {40}, {-1}, {1L << 32}, {39, 30, 22, 22, 1}, {29}, {19}, {19, 0}};
        int[][] due = {{-1, 0, 1, 0}, {-1, 0, 7, 1}, {1, 2, 1, 0}, {2, 1, 7, -1}, {6, 1, 6, -1}, {0, 1, 1, 0}, {0, 1, 1, 0}, {0, 1, 1, 0}, {0, 1, 1, 0}, {0, 1, 1, 0}, {0, 1, 1, 0},
            {-1, 0, 3, 0}, {0, 1, 1, 0}, {0, 1, 1, 0}, {0, 1, 1, 0}};
        for (int i = 0; i < deeds.length; i++) {
            Check.fill(x, 1, deeds[i]);
            for (int what = 0; what < 4; what++) {
                check.due("judge of " + i + ", " + what, x.judge(1, what), due[i][what]);
            }
        }
        unchanged("judge", x, before);
    }

    private static void perform() {
        RoseWall x = Check.told(GROWS);
        String before = Check.state(x);
        check.due("perform(-1)", x.perform(-1), -2);
        check.due("perform(4)", x.perform(4), -2);
        check.due("perform(2), missing", x.perform(2), -6);
        unchanged("perform(2)", x, before);
        Check.fill(x, 2);
        check.due("no deeds", x.perform(2), 0);
        Check.fill(x, 2, 12, 0);
        check.due("none can be", x.perform(2), 0);
        check.due("no call that did some", x.count(8), 0);
        Check.fill(x, 2, 1, 1, 11, 36, 21, 10, 0);
        check.due("till one can't be", x.perform(2), 5);
        int[] counts = {3, 2, 5, 1, 2, 0, 6, 2, 1, 0, 6};
        for (int what = 0; what < counts.length; what++) {
            check.due("performed: count(" + what + ")", x.count(what), counts[what]);
        }
        check.due("undone as a whole", x.undo(1), 0);
        unchanged("undo(1)", x, before);
        Check.fill(x, 2, 33, 50);
        check.due("one deed alone", x.perform(2), 1);
        check.due("one deed alone can be undone", x.count(8), 1);
        check.due("undo(1)", x.undo(1), 0);
        check.due("undone", x.count(6), 0);
        long[] many = new long[40];
        java.util.Arrays.fill(many, 20);
        Check.fill(x, 0, many);
        check.due("forty deeds", x.perform(0), 40);
        check.due("one call", x.count(8), 1);
    }

    private static void season() {
        String still = "wall 3 3;tenant;turns : turned = 1;goes : 1 = 0;";
        int[] seeds = {1, 2, -7, 2147483647, -2147483648};
        int[][] eight = {{6, 0, -1, 1, 5}, {7, 4, -1, 2, 5}, {8, 35, -1, 6, 3}, {6, 128, -1, 6, 3}, {7, 16, 0, 3, 4}};
        int[][] forty = {{35, 59, 0, 6, 15}, {36, 130, -1, 8, 21}, {36, 139, 0, 5, 23}, {36, 130, 0, 7, 23}, {35, 258, 0, 9, 25}};
        for (int i = 0; i < seeds.length; i++) {
            for (int times = 8; times <= 40; times += 32) {
                int[] due = times == 8 ? eight[i] : forty[i];
                RoseWall x = Check.told(still);
                String call = "season(" + seeds[i] + ", " + times + ")";
                check.due(call, x.season(seeds[i], times), due[0]);
                check.due(call + ": wall", x.count(2), due[1]);
                check.due(call + ": who", x.count(3), due[2]);
                check.due(call + ": temper", x.count(6), due[3]);
                check.due(call + ": nights", x.count(7), due[4]);
                check.due(call + ": undone as a whole", x.undo(1), 0);
                check.due(call + ": undone", x.count(2) + x.count(6) + x.count(7), 0);
            }
        }
        RoseWall x = Check.told(still);
        String before = Check.state(x);
        check.due("season(1, 0)", x.season(1, 0), -3);
        check.due("season(1, 41)", x.season(1, 41), -3);
        check.due("season(1, -1)", x.season(1, -1), -3);
        unchanged("season(1, 0)", x, before);
        RoseWall small = Check.told("wall 1 1;");
        check.due("a rose that there isn't", small.season(2, 1), 0);
        check.due("no call that did some", small.count(8), 0);
        RoseWall one = Check.told(GROWS);
        one.temper(7);
        check.due("one alone: a night", one.season(1, 1), 1);
        check.due("one alone can be undone", one.count(8), 2);
        check.due("undo(1)", one.undo(1), 1);
        check.due("undone: nights", one.count(7), 0);
        check.due("undone: temper", one.count(6), 7);
        RoseWall light = Check.told(GROWS);
        check.due("the blinds are drawn: shut, open, shut, open, shut", light.season(1, 7), 5);
        check.due("wall", light.count(2), 7);
    }

    public static void main(String[] args) {
        night();
        nights();
        let();
        turn();
        temper();
        undo();
        judge();
        perform();
        season();
        check.end();
    }
}
