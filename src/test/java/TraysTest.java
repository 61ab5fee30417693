/** Promises 40 to 45: trays, images, counts. */
public final class TraysTest {
    private static final Check check = new Check();

    private static void numbers() {
        RoseWall x = new RoseWall();
        for (int tray = 0; tray < 4; tray++) {
            check.due("missing at first: " + tray, x.perform(tray), -6);
            check.due("numbers(" + tray + ")", x.numbers(tray, tray, tray), 0);
            check.due("no number: " + tray, x.write(tray, tray, 1), -7);
        }
        check.due("numbers(-1, 0, 0)", x.numbers(-1, 0, 0), -2);
        check.due("numbers(4, 0, 0)", x.numbers(4, 0, 0), -2);
        check.due("numbers(0, -1, 0)", x.numbers(0, -1, 0), -2);
        check.due("numbers(0, 4, 0)", x.numbers(0, 4, 0), -2);
        check.due("numbers(0, 4, 41)", x.numbers(0, 4, 41), -2);
        x.write(3, 2, 20);
        check.due("numbers(3, 0, 41)", x.numbers(3, 0, 41), -3);
        check.due("numbers(3, 0, -1)", x.numbers(3, 0, -1), -3);
        check.due("the tray stays", x.write(3, 0, 1L << 40), 1L << 40);
        check.due("the tray stays: its deeds", x.judge(3, 0), 0);
        check.due("numbers(3, 3, 40)", x.numbers(3, 3, 40), 0);
        check.due("all 0: forty nights", x.perform(3), 40);
        check.due("nights", x.count(7), 40);
        check.due("the 40th", x.write(3, 39, 7), 7);
        check.due("the 41st", x.write(3, 40, 7), -7);
        check.due("in place of another one", x.numbers(3, 3, 40), 0);
        check.due("all 0", x.judge(3, 0), -1);
        check.due("none", x.numbers(3, 3, 0), 0);
        check.due("none: perform", x.perform(3), 0);
    }

    private static void write() {
        RoseWall x = new RoseWall();
        check.due("write(-1, 0, 0)", x.write(-1, 0, 0), -2);
        check.due("write(4, 0, 0)", x.write(4, 0, 0), -2);
        check.due("write(0, -1, 0), missing", x.write(0, -1, 0), -6);
        for (int sort = 0; sort < 4; sort++) {
            x.numbers(sort, sort, 3);
        }
        long[] values = {127, 128, 255, 256, -129, 32768, 65535, 2147483648L, 4294967295L, Long.MIN_VALUE, Long.MAX_VALUE};
        for (long v : values) {
            check.due("8 bits: " + v, x.write(0, 1, v), (byte) v);
            check.due("16 bits: " + v, x.write(1, 1, v), (short) v);
            check.due("32 bits: " + v, x.write(2, 1, v), (int) v);
            check.due("64 bits: " + v, x.write(3, 1, v), v);
        }
        check.due("write(0, -1, 0)", x.write(0, -1, 0), -7);
        check.due("write(0, 3, 0)", x.write(0, 3, 0), -7);
        x.write(0, 0, 256 + 20);
        x.write(0, 1, 0);
        x.write(0, 2, 40);
        check.due("what is there counts: rose 0 is turned by hand", x.judge(0, 0), 2);
    }

    private static void lists() {
        RoseWall x = Check.told("wall 3 3;turned 4;");
        check.due("lists(-1, 2)", x.lists(-1, 2), -2);
        check.due("lists(4, 0)", x.lists(4, 0), -2);
        check.due("lists(0, 2), missing", x.lists(0, 2), -6);
        x.numbers(0, 1, 5);
        check.due("lists(0, 2)", x.lists(0, 2), -3);
        check.due("lists(0, -1)", x.lists(0, -1), -3);
        check.due("it stays", x.judge(0, 0), -1);
        check.due("lists(0, 0)", x.lists(0, 0), 5);
        check.due("it is seen", x.seen(0), 32);
        check.due("nothing was done", x.count(7), 0);
        x.write(0, 4, 326);
        check.due("it isn't seen", x.seen(0), 0);
        x.numbers(0, 0, 3);
        check.due("lists(0, 0)", x.lists(0, 0), 3);
        check.due("495 cut to 8 bits is no wall", x.seen(0), -3);
        x.numbers(0, 3, 40);
        check.due("forty", x.lists(0, 1), 40);
        x.numbers(0, 3, 0);
        check.due("none", x.lists(0, 1), 0);
        RoseWall light = Check.told("wall 1 2;turns : light = 1 and cell = 0;");
        light.numbers(2, 2, 2);
        light.lists(2, 1);
        check.due("open", light.seenBy(2, 0), 1);
        check.due("open once", light.seen(2), 1);
        light.lists(2, 0);
        check.due("shut", light.seenBy(2, 1), 0);
    }

    private static void images() {
        RoseWall x = Check.told("wall 1 3;tenant patience 2;tenant patience 1;in 0;turned 0;face 1;open 3;temper 6;turns : turned = 1 or near > 0 and light = 1;");
        check.due("image(-1)", x.image(-1), -2);
        check.due("image(2)", x.image(2), -2);
        check.due("restore(-1)", x.restore(-1), -2);
        check.due("restore(2)", x.restore(2), -2);
        check.due("restore(0)", x.restore(0), -5);
        x.night(1);
        x.temper(4);
        check.due("image(0)", x.image(0), 0);
        check.due("calls stay undoable", x.count(8), 2);
        String first = Check.state(x);
        Check.tell(x, "wall 2 2;turned 3;");
        x.turn(0);
        check.due("image(1)", x.image(1), 0);
        Check.fill(x, 0, 8);
        Check.tell(x, "wall 3 3;tenant;");
        Check.tell(x, "wall 1 1;tenant;tenant;tenant;turned 0;");
        Check.tell(x, "wall 4 1;");
        x.feed(0, 0, 0, 0, 0);
        x.night(0);
        check.due("restore(0)", x.restore(0), 0);
        check.due("as it was", Check.state(x).equals(first.replaceFirst(" 2 0 (\\d+) 0 -1$", " 0 20 $1 3 5")) ? 1 : 0, 1);
        check.due("undo(1)", x.undo(1), -3);
        check.due("patience", x.tenant(0, 0), 2);
        check.due("the law", x.lies(1, 1), 7);
        check.due("the law, shut", x.lies(1, 0), 3);
        check.due("open 3", x.chance(1, 0), 7);
        check.due("trays stay", x.judge(0, 0), 0);
        x.turn(2);
        check.due("undo(1)", x.undo(1), 0);
        check.due("restore(1)", x.restore(1), 0);
        check.due("its roses", x.count(0), 4);
        check.due("its wall", x.count(2), 9);
        check.due("its nights", x.count(7), 0);
        check.due("its lines", x.count(10), 2);
        check.due("restore(0) again", x.restore(0), 0);
        check.due("its wall", x.count(2), 3);
        check.due("its nights", x.count(7), 1);
        check.due("its temper", x.count(6), 4);
        x.nights(3, 1);
        check.due("image(0) in place of that", x.image(0), 0);
        x.let(1);
        check.due("restore(0)", x.restore(0), 0);
        check.due("nobody", x.count(3), -1);
        check.due("nights", x.count(7), 4);
        RoseWall y = new RoseWall();
        y.image(1);
        Check.tell(y, "wall 3 3;temper 1;");
        check.due("none is of another object", y.restore(0), -5);
        check.due("an image without a text", y.restore(1), 0);
        check.due("its rose", y.count(0), 1);
        check.due("its lines", y.count(10), 0);
    }

    private static void manyImages() {
        RoseWall x = new RoseWall();
        for (int i = 0; i < 12; i++) {
            Check.tell(x, "wall 1 " + (1 + i % 3) + ";temper " + i % 10 + ";turns : temper = " + i % 10 + ";");
            x.image(i % 2);
            if (i > 0) {
                x.restore((i + 1) % 2);
                check.due("the one ahead of " + i, x.count(6), (i - 1) % 10);
                check.due("its law", x.lies(1, 0), (2 << (i - 1) % 3) - 1);
            }
            x.restore(i % 2);
            check.due("the latest", x.count(0), 1 + i % 3);
            check.due("its law", x.lies(1, 0), (2 << i % 3) - 1);
        }
    }

    /** A new room has nothing of those that were read ahead of it. */
    private static void manyRooms() {
        RoseWall x = new RoseWall();
        for (int i = 0; i < 6; i++) {
            Check.tell(x, "wall 2 2;row 0 1 2;row 1 3 4;tenant patience 0;in 0;turned 1;face 2;open 10;temper 5;turns : kind = 4;goes : face = 1 or light = 1;");
            check.due("kind", x.rose(3, 0), 4);
            check.due("night(1)", x.night(1), 8);
            check.due("gone", x.count(3), -1);
            Check.tell(x, "wall 3 2;tenant;in 0;");
            int[] due = {6, 1, 0, 0, 0, 0, 0, 0, 0, 0, 3};
            for (int what = 0; what < due.length; what++) {
                check.due("nothing of it: count(" + what + ")", x.count(what), due[what]);
            }
            for (int c = 0; c < 6; c++) {
                check.due("nothing of it: kind " + c, x.rose(c, 0), 0);
            }
            check.due("its patience", x.tenant(0, 0), 9);
            x.turn(0);
            check.due("no law of it", x.night(1), 14);
            check.due("no law of going", x.count(3), 0);
            Check.tell(x, "wall 1 1;tenant;in 0;goes : light = 1;");
            check.due("half", x.chance(1, 1), 2);
        }
    }

    private static void counts() {
        RoseWall x = Check.told("wall 2 3;tenant;tenant;in 1;turned 5;turned 0;face 2 3;temper 8;turns : turned = 1;");
        x.night(0);
        x.night(1);
        x.feed(1, 2, 3, 4, 5);
        int[] due = {6, 2, 33, 1, 2, 12, 8, 2, 2, 20, 9};
        for (int what = 0; what < due.length; what++) {
            check.due("count(" + what + ")", x.count(what), due[what]);
        }
        check.due("count(-1)", x.count(-1), -1);
        check.due("count(11)", x.count(11), -1);
        check.due("count(2147483647)", x.count(2147483647), -1);
        check.due("NONE", RoseWall.NONE, -1);
    }

    public static void main(String[] args) {
        numbers();
        write();
        lists();
        images();
        manyImages();
        manyRooms();
        counts();
        check.end();
    }
}
