/** Promises 1 to 6: a new object, the tape, the text and its faults, roses and tenants. */
public final class RoomTest {
    private static final Check check = new Check();

    private static void fault(String text, int kind, int place) {
        RoseWall x = Check.told("wall 2 1;tenant;in 0;temper 3;turned 1;");
        x.night(0);
        x.turn(1);
        String before = Check.state(x);
        Check.feed(x, text);
        check.due("'" + text + "'", x.room(text.length()), -30 - kind);
        check.due("fault(0) of '" + text + "'", x.fault(0), kind);
        check.due("fault(1) of '" + text + "'", x.fault(1), place);
        String after = Check.state(x);
        check.due("all stays with a fault in '" + text + "'", after.equals(before.replaceFirst("0 -1$", kind + " " + place)) ? 1 : 0, 1);
    }

    private static void read(String text, int lines) {
        RoseWall x = new RoseWall();
        check.due("'" + text + "'", Check.tell(x, text), lines);
        check.due("fault(0) of '" + text + "'", x.fault(0), 0);
        check.due("fault(1) of '" + text + "'", x.fault(1), -1);
    }

    private static void newObject() {
        RoseWall x = new RoseWall();
        int[] counts = {1, 0, 0, -1, 0, 0, 0, 0, 0, 0, 0};
        for (int what = 0; what < counts.length; what++) {
            check.due("new: count(" + what + ")", x.count(what), counts[what]);
        }
        check.due("new: rose(0, 0)", x.rose(0, 0), 0);
        check.due("new: rose(1, 0)", x.rose(1, 0), -2);
        check.due("new: tenant(0, 0)", x.tenant(0, 0), -2);
        check.due("new: judge(3, 0)", x.judge(3, 0), -6);
        check.due("new: restore(1)", x.restore(1), -5);
        check.due("new: undo(1)", x.undo(1), -3);
        check.due("new: turn(0)", x.turn(0), 1);
        check.due("new: night(1), a rose with no neighbours", x.night(1), 0);
    }

    private static void tape() {
        RoseWall x = new RoseWall();
        for (int i = 1; i <= 45; i++) {
            check.due("feed " + i, x.feed(0x20202020, -1, 0, 1, 2), 20 * i);
        }
        check.due("feed above 900", x.feed(1, 2, 3, 4, 5), -5);
        check.due("the tape stays", x.count(9), 900);
        check.due("room(901)", x.room(901), -3);
        check.due("room(-1)", x.room(-1), -3);
        check.due("the tape stays", x.count(9), 900);
        check.due("the bytes are told highest first", x.room(900), -31);
        check.due("a byte of -1 begins no token", x.fault(1), 4);
        check.due("the tape is empty", x.count(9), 0);
        check.due("room(1) of none", x.room(1), -3);
        check.due("the fault is that of the latest that was read", x.fault(1), 4);
        check.due("feed", x.feed(0x77616c6c, 0x20322033, 0x3b3f3f3f, 0x3f3f3f3f, 0x3f3f3f3f), 20);
        check.due("room(9): wall 2 3;", x.room(9), 1);
        check.due("roses", x.count(0), 6);
        check.due("the rest of the tape is gone", x.count(9), 0);
        check.due("feed", x.feed(0, 0, 0, 0, 0), 20);
    }

    private static void aNewRoom() {
        RoseWall x = Check.told("wall 3 3;tenant patience 3;in 0;turned 4;temper 7;face 0 8;open 1;");
        x.night(1);
        x.turn(0);
        check.due("undoable", x.count(8), 2);
        check.due("another room", Check.tell(x, "wall 1 3;\n  turned 2 ;turned 0; turned 2;temper 2;"), 5);
        int[] counts = {3, 0, 5, -1, 2, 0, 2, 0, 0, 0, 5};
        for (int what = 0; what < counts.length; what++) {
            check.due("another room: count(" + what + ")", x.count(what), counts[what]);
        }
        String whole = "wall 1 1;" + " ".repeat(880) + "open 1 ;".repeat(1) + "xxx";
        check.due("900 bytes", whole.length(), 900);
        Check.feed(x, whole);
        check.due("a text of 897 bytes", x.room(897), 2);
        String lines = "wall 1 1;" + "temper 1;".repeat(99);
        check.due("900 bytes", lines.length(), 900);
        check.due("a text of 900 bytes", Check.tell(x, lines), 100);
        check.due("lines", x.count(10), 100);
        check.due("its temper", x.count(6), 1);
        fault("", 2, 0);
        RoseWall y = new RoseWall();
        check.due("room(0)", y.room(0), -32);
        check.due("room(0): the end", y.fault(1), 0);
    }

    /** What is behind the first n bytes of the tape is no part of the text, not even of its last token. */
    private static void cutTexts() {
        int[][] cuts = {{0, 2, 0}, {2, 2, 0}, {6, 2, 6}, {10, 2, 9}, {15, 2, 15}, {16, 2, 16}, {17, 2, 17}, {20, 2, 18}, {25, 2, 25}, {26, 2, 26}};
        for (int[] cut : cuts) {
            RoseWall x = new RoseWall();
            Check.feed(x, "wall 1 1;temper 1;temper 333;");
            check.due("cut to " + cut[0], x.room(cut[0]), -30 - cut[1]);
            check.due("its place, cut to " + cut[0], x.fault(1), cut[2]);
        }
        RoseWall y = new RoseWall();
        Check.feed(y, "wall 1 1;turns : 1 = 12 ;");
        check.due("cut within a number", y.room(22), -32);
        check.due("cut within a number, its place", y.fault(1), 22);
        RoseWall z = new RoseWall();
        Check.feed(z, "wall 1 1;temper 3;temper 4;");
        check.due("cut between lines", z.room(18), 2);
        check.due("cut between lines: temper", z.count(6), 3);
        for (String last : new String[] {"temper", "temper 12", "?", "1234", "temper 1", ";"}) {
            String whole = "wall 1 1;" + " ".repeat(891 - last.length()) + last;
            RoseWall x = new RoseWall();
            boolean bad = last.equals("?") || last.equals("1234");
            boolean out = last.equals("temper 12");
            check.due("900 bytes, at their end " + last, Check.tell(x, whole), bad ? -31 : out ? -33 : -32);
            check.due("its place", x.fault(1), last.startsWith("temper 12") ? 898 : last.startsWith("temper") ? 900 : 900 - last.length());
        }
    }

    private static void goodTexts() {
        read("wall 1 1;", 1);
        read(" \n wall\n3\n3\n;\n", 1);
        read("wall003 001;", 1);
        read("wall 2 2;row 0 1 2;row 1 3 4;row 0 9 9;", 4);
        read("wall 1 1;tenant;tenant patience 1 patience 0;tenant;tenant patience 9;in 3;in 0;", 7);
        read("wall 1 1;face 0 0 0;face 0;open 0;open 10;open 010;temper 0;temper 9;", 8);
        read("wall 1 1;turns : 1=1;goes:0<999;turns:light+tenant*cell-kind>near*turned*temper;", 4);
        read("wall 1 1;goes : all = face + patience and not light < tenant or [[1=1]and 2=2];", 2);
        read("wall 1 1;turns : [[[[[[1=1]]]]]];goes : ((((((1))))))=((((((2))))));", 3);
        read("wall 1 1;turns : not not not not not not 1 = 1 and not not not not not not 1 = 1;", 2);
        read("wall 1 1;turns : not [ not [ not [ 1 = 1 ] ] ] or [ not [ not [ not 1 = 1 ] ] ];", 2);
        read("wall 1 1;turns : [ not ( ( ( ( 1 ) ) ) ) = 1 ];", 2);
    }

    private static void faults() {
        fault(" ", 2, 1);
        fault("\n\n", 2, 2);
        fault("row 0 0;", 2, 0);
        fault("Wall 1 1;", 1, 0);
        fault("walls 1 1;", 2, 0);
        fault("wall", 2, 4);
        fault("wall ;", 2, 5);
        fault("wall 0 1;", 3, 5);
        fault("wall 1 0;", 3, 7);
        fault("wall 4 9999;", 3, 5);
        fault("wall 3 9999;", 1, 7);
        fault("wall 1 1 1;", 2, 9);
        fault("wall 1 1", 2, 8);
        fault("wall 1 1;;", 2, 9);
        fault("wall 1 1;wall 1 1;", 2, 9);
        fault("wall 1 1;1;", 2, 9);
        fault("wall 1 1;or;", 2, 9);
        fault("wall 1 1;\t", 1, 9);
        fault("wall 1 1;\r\n", 1, 9);
        fault("wall 1 1;open \u00e9;", 1, 14);
        fault("wall 1 1;open \u0000;", 1, 14);
        fault("wall 1 1;open 1/;", 1, 15);
        fault("wall 1 1;ivy ?", 2, 9);
        fault("wall 1 1;zinnia;", 2, 9);
        fault("wall 1 1;a;", 2, 9);
        fault("wall 1 1;`;", 1, 9);
        fault("wall 1 1;{;", 1, 9);
        fault("wall 1 1;open 1a;", 2, 15);
        fault("wallz 1 1;", 2, 0);
        fault("wall 1 1;? ivy", 1, 9);
        fault("wall 2 2;row 2 0 0;", 3, 13);
        fault("wall 2 2;row;", 2, 12);
        fault("wall 2 2;row 0;", 2, 14);
        fault("wall 2 2;row 0 1;", 2, 16);
        fault("wall 2 2;row 0 1 open", 2, 17);
        fault("wall 2 2;row 0 1 2 99;", 2, 19);
        fault("wall 2 2;row 0 1 2 9999;", 1, 19);
        fault("wall 2 2;row 0 1 10;", 3, 17);
        fault("wall 1 1;tenant 5;", 2, 16);
        fault("wall 1 1;tenant patience;", 2, 24);
        fault("wall 1 1;tenant patience 10;", 3, 25);
        fault("wall 1 1;tenant patience 1 2;", 2, 27);
        fault("wall 1 1;tenant;tenant;tenant;tenant; tenant 1;", 4, 38);
        fault("wall 1 1;in 0;", 3, 12);
        fault("wall 1 1;in 0;tenant;", 3, 12);
        fault("wall 1 1;tenant;in 1;", 3, 19);
        fault("wall 1 1;tenant;in;", 2, 18);
        fault("wall 1 1;tenant;in 0 0;", 2, 21);
        fault("wall 1 2;turned 2;", 3, 16);
        fault("wall 1 2;turned 0 1;", 2, 18);
        fault("wall 1 2;turned;", 2, 15);
        fault("wall 1 2;face;", 2, 13);
        fault("wall 1 2;face 0 2;", 3, 16);
        fault("wall 1 2;face 0 face;", 2, 16);
        fault("wall 1 1;open 11;", 3, 14);
        fault("wall 1 1;open;", 2, 13);
        fault("wall 1 1;open 1 1;", 2, 16);
        fault("wall 1 1;temper 10;", 3, 16);
        fault("wall 1 1;temper -1;", 2, 16);
        fault("wall 1 1;turns;", 2, 14);
        fault("wall 1 1;turns 1 = 1;", 2, 15);
        fault("wall 1 1;patience 1;", 2, 9);
    }

    private static void lawFaults() {
        fault("wall 1 1;turns : ;", 2, 17);
        fault("wall 1 1;turns : all = 1;", 2, 17);
        fault("wall 1 1;turns : 1 = face;", 2, 21);
        fault("wall 1 1;turns : patience = 1;", 2, 17);
        fault("wall 1 1;goes : cell = 1;", 2, 16);
        fault("wall 1 1;goes : kind = 1;", 2, 16);
        fault("wall 1 1;goes : near = 1;", 2, 16);
        fault("wall 1 1;goes : turned = 1;", 2, 16);
        fault("wall 1 1;goes : temper = 1;", 2, 16);
        fault("wall 1 1;turns : row = 1;", 2, 17);
        fault("wall 1 1;turns : ivy = 1;", 2, 17);
        fault("wall 1 1;turns : 1;", 2, 18);
        fault("wall 1 1;turns : 1 = ;", 2, 21);
        fault("wall 1 1;turns : 1 = 1 = 1;", 2, 23);
        fault("wall 1 1;turns : 1 = 1 or;", 2, 25);
        fault("wall 1 1;turns : 1 = 1 and;", 2, 26);
        fault("wall 1 1;turns : not;", 2, 20);
        fault("wall 1 1;turns : - 1 = 1;", 2, 17);
        fault("wall 1 1;turns : 1 + = 1;", 2, 21);
        fault("wall 1 1;turns : 1 * * 1 = 1;", 2, 21);
        fault("wall 1 1;turns : 1 1 = 1;", 2, 19);
        fault("wall 1 1;turns : ();", 2, 18);
        fault("wall 1 1;turns : [];", 2, 18);
        fault("wall 1 1;turns : (1 = 1);", 2, 20);
        fault("wall 1 1;turns : [1] = 1;", 2, 19);
        fault("wall 1 1;turns : [1 = 1);", 2, 23);
        fault("wall 1 1;turns : [1 = 1", 2, 23);
        fault("wall 1 1;turns : (1 = 1;", 2, 20);
        fault("wall 1 1;turns : 1 = 1]", 2, 22);
        fault("wall 1 1;turns : 1 = (not 1 = 1);", 2, 22);
        fault("wall 1 1;turns : 1 = [1];", 2, 21);
        fault("wall 1 1;turns : 1000 = 1;", 1, 17);
        fault("wall 1 1;turns : 1 == 1;", 2, 20);
        fault("wall 1 1;turns : 1 = 1,", 1, 22);
        fault("wall 1 1;turns : [[[[[[[1=1]]]]]]];", 4, 23);
        fault("wall 1 1;turns : (((((((1;", 4, 23);
        fault("wall 1 1;turns : not not not not not not not 1;", 4, 41);
        fault("wall 1 1;turns : not [ not [ not [ ( 1 ) = 1", 4, 35);
        fault("wall 1 1;turns : not [ not [ not [ [", 4, 35);
        fault("wall 1 1;turns : not [ not [ not [ not", 4, 35);
        fault("wall 1 1;turns : ((((((not", 2, 23);
        fault("wall 1 1;turns : (((((([", 2, 23);
        fault("wall 1 1;turns : ((((((1 (", 2, 25);
    }

    /** Each word with one letter changed, put in or left out is no word of the language. */
    private static void nearWords() {
        String[] texts = {"wall 1 1;", "wall 1 1;row 0 0;", "wall 1 1;tenant;", "wall 1 1;tenant;in 0;", "wall 1 1;turned 0;", "wall 1 1;face 0;",
            "wall 1 1;open 1;", "wall 1 1;temper 1;", "wall 1 1;turns:1=1;", "wall 1 1;goes:1=1;", "wall 1 1;tenant patience 1;",
            "wall 1 1;goes:1=1 or 1=1;", "wall 1 1;goes:1=1 and 1=1;", "wall 1 1;goes:not 1=1;", "wall 1 1;goes:1=light;", "wall 1 1;goes:1=tenant;",
            "wall 1 1;goes:1=all;", "wall 1 1;goes:1=face;", "wall 1 1;goes:1=patience;", "wall 1 1;turns:1=cell;", "wall 1 1;turns:1=kind;",
            "wall 1 1;turns:1=near;", "wall 1 1;turns:1=turned;", "wall 1 1;turns:1=temper;"};
        for (String text : texts) {
            int end = text.length();
            while (!Character.isLetter(text.charAt(end - 1))) {
                end--;
            }
            if (text.contains(" or ") || text.contains(" and ") || text.contains("not ")) {
                end = text.lastIndexOf(' ');
            }
            int start = end;
            while (start > 0 && Character.isLetter(text.charAt(start - 1))) {
                start--;
            }
            read(text, text.replaceAll("[^;]", "").length());
            for (int i = start; i < end; i++) {
                fault(text.substring(0, i) + "q" + text.substring(i + 1), 2, start);
                fault(text.substring(0, i) + "q" + text.substring(i), 2, start);
                if (end - start > 1) {
                    fault(text.substring(0, i) + text.substring(i + 1), 2, start);
                }
            }
            fault(text.substring(0, end) + "q" + text.substring(end), 2, start);
        }
    }

    /** Where the seventh of not [ ( stands, it is that, whatever is ahead of it. */
    private static void sevenths() {
        String[] six = {"1=1 and [", "1=1 or [", "not [", "not not ", "["};
        for (String one : six) {
            StringBuilder s = new StringBuilder("wall 1 1;turns : ");
            int within = 0;
            int seventh = -1;
            for (int i = 0; i < 7; i++) {
                for (int k = 0; k < one.length(); k++) {
                    boolean opens = one.charAt(k) == '[' || one.startsWith("not", k);
                    if (opens && ++within == 7) {
                        seventh = s.length() + k;
                    }
                }
                s.append(one);
            }
            fault(s.toString(), 4, seventh);
        }
        fault("wall 1 1;turns : " + "1=1 and not ".repeat(7), 2, 17 + 7 * 12);
        fault("wall 1 1;turns : " + "1 * (".repeat(7), 4, 17 + 6 * 5 + 4);
        fault("wall 1 1;turns : " + "1 + (".repeat(7), 4, 17 + 6 * 5 + 4);
        fault("wall 1 1;turns : " + "2 - 1 * (".repeat(7), 4, 17 + 6 * 9 + 8);
        fault("wall 1 1;turns : 1 = " + "(".repeat(7), 4, 27);
        fault("wall 1 1;turns : 1 < 1 * " + "(".repeat(7), 4, 31);
        fault("wall 1 1;turns : not [ 1 = " + "(".repeat(5), 4, 31);
    }

    /** What is later strikes, and what isn't told is as the document says. */
    private static void whatIsTold() {
        RoseWall x = Check.told("wall 2 3;tenant;tenant patience 4 patience 2;row 1 4 5 6;row 1 7 8 9;in 1;in 0;"
            + "face 1 2;face 0 5 0;open 3;turned 3;turned 3;temper 4;temper 6;");
        int[] kinds = {0, 0, 0, 7, 8, 9};
        for (int c = 0; c < 6; c++) {
            check.due("kind of " + c, x.rose(c, 0), kinds[c]);
        }
        int[] counts = {6, 2, 8, 0, 1, 33, 6, 0, 0, 0, 14};
        for (int what = 0; what < counts.length; what++) {
            check.due("told: count(" + what + ")", x.count(what), counts[what]);
        }
        check.due("patience untold", x.tenant(0, 0), 9);
        check.due("the later patience", x.tenant(1, 0), 2);
        RoseWall laws = Check.told("wall 1 1;tenant;in 0;turns : 1 = 0;turns : 1 = 1;goes : 1 = 1;goes : 1 = 0;");
        check.due("the later law", laws.night(0), 1);
        check.due("the later law of going", laws.count(3), 0);
        check.due("the latest of many", Check.told("wall 1 1;" + "turns:1=0;".repeat(88) + "turns:1=1;").rose(0, 3), 1);
        check.due("the latest of many, not so", Check.told("wall 1 1;" + "turns:1=1;".repeat(88) + "turns:1=0;").rose(0, 3), 0);
    }

    private static boolean law(String truth) {
        return Check.told("wall 1 1;turns : " + truth + ";").rose(0, 3) == 1;
    }

    private static void language() {
        String[] holding = {"1 = 1", "1 < 2", "2 > 1", "1 = 1 or 1 = 0 and 1 = 0", "not 1 = 0 and 1 = 1", "not [1 = 1 and 1 = 0]",
            "1 + 2 * 3 = 7", "(1 + 2) * 3 = 9", "9 - 3 - 2 = 4", "1 - 2 < 0", "0 - 3 * 4 = 0 - 12", "2 - 3 + 4 = 3",
            "999 * 999 = 999 * 998 + 999", "999 * 999 * 2 = 999 * 999 * 3", "999 * 999 + 999 + 999 + 1 = 999 * 999 + 999 + 999 + 2", "999 * 999 + 999 + 999 < 999 * 999 + 999 + 999 + 1",
            "0 - 999 * 999 * 999 = 0 - 999 * 999 * 998", "999 * 999 * 2 - 1 < 999 * 999 * 2", "999 * 999 + 999 + 999 + 999 - 999 * 999 = 999 + 999 + 1",
            "0 - 999 * 999 - 999 - 999 - 999 + 999 * 999 = 0 - 999 - 999 - 1", "(0 - 999 * 999 * 999) * (0 - 999 * 999) = 999 * 999 * 999",
            "light = 0 and tenant = 9 and cell = 0 and kind = 0 and near = 0 and turned = 0 and temper = 0", "007 = 7",
            "999 * 999 * 999 - 999 * 999 * 999 = 0", "not not 1 = 1", "[1 = 0 or 1 = 1] and 1 = 1"};
        for (String truth : holding) {
            check.due(truth, law(truth) ? 1 : 0, 1);
            check.due("not [ " + truth, law("not [" + truth + "]") ? 1 : 0, 0);
        }
        String sums = "1 + 2 * (".repeat(6) + "1 + 2 * 3" + ")".repeat(6);
        check.due("sums, six within one another", law(sums + " = 511") ? 1 : 0, 1);
        check.due("sums, six within one another, not so", law(sums + " = 510") ? 1 : 0, 0);
        String truths = "1 = 0 or 1 = 1 and [".repeat(6);
        check.due("truths, six within one another", law(truths + "1 + 2 * 3 = 7" + "]".repeat(6)) ? 1 : 0, 1);
        check.due("truths, six within one another, not so", law(truths + "1 + 2 * 3 = 8" + "]".repeat(6)) ? 1 : 0, 0);
        String many = "1 = 1" + " and 1 = 1".repeat(70);
        check.due("many", law(many) ? 1 : 0, 1);
        check.due("many, and one not so", law(many + " and 1 = 0") ? 1 : 0, 0);
        check.due("as many signs as there can be", law("1" + "+1".repeat(438) + "=439") ? 1 : 0, 1);
    }

    private static void roses() {
        RoseWall x = Check.told("wall 3 3;tenant;tenant;in 1;temper 5;row 1 1 2 3;turned 0;turned 4;"
            + "turns : cell = 2 or kind = 2 and light = 1 or tenant = 1 and cell = 6 or temper = 5 and cell = 7 or near = 2 and turned = 0 or turned = 1 and near = 1;");
        int[] near = {1, 2, 1, 2, 1, 1, 1, 1, 1};
        int[] shut = {1, 1, 1, 1, 1, 0, 1, 1, 0};
        for (int c = 0; c < 9; c++) {
            check.due("turned " + c, x.rose(c, 1), c == 0 || c == 4 ? 1 : 0);
            check.due("near " + c, x.rose(c, 2), near[c]);
            check.due("shut " + c, x.rose(c, 3), shut[c]);
        }
        check.due("open 4", x.rose(4, 4), 1);
        x.turn(0);
        check.due("near 1 then", x.rose(1, 2), 1);
        check.due("shut 4 then: it has no neighbour and kind 2", x.rose(4, 3), 0);
        check.due("open 4 then", x.rose(4, 4), 1);
        x.temper(4);
        check.due("shut 7, of another temper", x.rose(7, 3), 0);
        check.due("rose(-1, 0)", x.rose(-1, 0), -2);
        check.due("rose(9, 0)", x.rose(9, 0), -2);
        check.due("rose(0, -1)", x.rose(0, -1), -2);
        check.due("rose(0, 5)", x.rose(0, 5), -2);
        RoseWall plain = Check.told("wall 2 2;turned 0;turned 1;turned 2;turned 3;");
        check.due("three neighbours", plain.rose(0, 3), 1);
        RoseWall cross = Check.told("wall 3 3;turned 0;turned 1;turned 2;turned 3;");
        check.due("four neighbours", cross.rose(4, 4), 0);
        check.due("slantwise", cross.rose(4, 2), 4);
        check.due("no neighbours", cross.rose(8, 3), 0);
        check.due("one neighbour", cross.rose(6, 3), 1);
    }

    private static void tenants() {
        RoseWall x = Check.told("wall 1 3;tenant patience 1;tenant patience 2;tenant;in 1;turned 0;turned 2;face 0 2;");
        int[] patience = {1, 2, 9};
        int[] going = {1, 0, 0};
        for (int t = 0; t < 3; t++) {
            check.due("patience " + t, x.tenant(t, 0), patience[t]);
            check.due("in " + t, x.tenant(t, 1), t == 1 ? 1 : 0);
            check.due("going, shut " + t, x.tenant(t, 2), going[t]);
            check.due("going, open " + t, x.tenant(t, 3), going[t]);
        }
        check.due("tenant(3, 0)", x.tenant(3, 0), -2);
        check.due("tenant(-1, 0)", x.tenant(-1, 0), -2);
        check.due("tenant(0, 4)", x.tenant(0, 4), -2);
        check.due("tenant(0, -1)", x.tenant(0, -1), -2);
        RoseWall y = Check.told("wall 1 3;tenant patience 1;tenant patience 2;turned 0;turned 2;face 0 2;"
            + "goes : face = 1 and light = 1 and all = 2 and patience = tenant + 1;");
        for (int t = 0; t < 2; t++) {
            check.due("by the law, shut " + t, y.tenant(t, 2), 0);
            check.due("by the law, open " + t, y.tenant(t, 3), 1);
        }
        y.turn(1);
        check.due("not the face", y.tenant(0, 3), 0);
        RoseWall none = Check.told("wall 1 1;tenant;goes : face = 1;");
        check.due("without a face never", none.tenant(0, 2), 0);
        none.turn(0);
        check.due("without a face never, a rose turned", none.tenant(0, 2), 0);
    }

    public static void main(String[] args) {
        newObject();
        tape();
        aNewRoom();
        cutTexts();
        goodTexts();
        faults();
        lawFaults();
        nearWords();
        sevenths();
        whatIsTold();
        language();
        roses();
        tenants();
        RoseWall x = Check.told("wall 1 1;");
        check.due("fault(2)", x.fault(2), -1);
        check.due("fault(-1)", x.fault(-1), -1);
        check.end();
    }
}
