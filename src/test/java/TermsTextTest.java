/** Each sentence of 'Terms' that names a boundary case of a text: at the boundary, just beyond it, on both sides. */
public final class TermsTextTest {
    private static final Check check = new Check();
    private static final String W = "wall 1 1;";

    private static void fault(String text, int kind, int place) {
        RoseWall x = new RoseWall();
        check.due("'" + text + "'", Check.tell(x, text), -30 - kind);
        check.due("fault(0) of '" + text + "'", x.fault(0), kind);
        check.due("fault(1) of '" + text + "'", x.fault(1), place);
    }

    /** The fault is at the sign @, which is no part of the text. */
    private static void faultAt(String marked, int kind) {
        fault(marked.replace("@", ""), kind, marked.indexOf('@'));
    }

    private static RoseWall read(String text, int lines) {
        RoseWall x = new RoseWall();
        check.due("'" + text + "'", Check.tell(x, text), lines);
        check.due("fault(0) of '" + text + "'", x.fault(0), 0);
        check.due("fault(1) of '" + text + "'", x.fault(1), -1);
        return x;
    }

    private static void texts() {
        check.said("a TEXT of at most 900 bytes");
        String longest = W + " ".repeat(882) + "temper 3;";
        check.due("its length", longest.length(), 900);
        check.due("the last line counts", read(longest, 2).count(6), 3);
        check.due("899 bytes", read(longest.replaceFirst(" {882}", " ".repeat(881)), 2).count(6), 3);
        RoseWall x = new RoseWall();
        Check.feed(x, longest);
        check.due("901", x.room(901), -3);
        check.due("900 behind it", x.room(900), 2);

        for (String full : new String[] {";", "=", "1 ", "a ", "(", "?"}) {
            String text = full.repeat(900 / full.length());
            fault(text, full.equals("?") ? 1 : 2, 0);
            fault((W + text).substring(0, 900), full.equals("?") ? 1 : 2, 9);
            fault((W + "turns:" + text).substring(0, 900), full.equals("?") ? 1 : full.equals("(") ? 4 : 2, full.equals("(") ? 21 : full.equals("1 ") ? 17 : 15);
        }
        String sums = W + "turns:1" + "+1".repeat(437);
        check.due("as many signs as go in", read(sums + "*1=438;", 2).rose(0, 3), 1);
        fault(sums + "+1*1", 2, sums.length() + 4);

        check.said("without one: 1 row, 1 column, KIND 0, no TENANTS, no FACE");
        RoseWall none = new RoseWall();
        check.due("roses", none.count(0), 1);
        check.due("kind", none.rose(0, 0), 0);
        check.due("a second rose", none.rose(1, 0), -2);
        check.due("tenants", none.count(1), 0);
        check.due("a tenant", none.tenant(0, 0), -2);
        check.due("face", none.count(5), 0);
        check.due("to the face", none.toFace(), -1);
        check.due("who", none.count(3), -1);
        check.due("wall", none.count(2), 0);
        check.due("temper", none.count(6), 0);
        check.due("lines", none.count(10), 0);

        check.said("wall N N ; { LINE ; }");
        read("wall 1 1;", 1);
        faultAt("@", 2);
        faultAt("wall 1 1@", 2);
        faultAt("wall 1 1;@;", 2);
        faultAt("wall 1 1 @temper 1;", 2);
        faultAt("wall 1 1;temper 1@", 2);
        faultAt("wall 1 1;temper 1;@;", 2);
        read("wall 1 1;temper 1;temper 2;", 3);
    }

    private static void walls() {
        check.said("wall: rows, columns of ROSES, 1 to 3 each");
        for (int rows = 0; rows <= 5; rows++) {
            for (int columns = 0; columns <= 5; columns++) {
                boolean badRows = rows < 1 || rows > 3;
                String text = "wall " + rows + " " + columns + ";";
                if (badRows || columns < 1 || columns > 3) {
                    fault(text, 3, badRows ? 5 : 7);
                } else {
                    RoseWall x = read(text, 1);
                    check.due("roses of " + text, x.count(0), rows * columns);
                    check.due("the last rose of " + text, x.rose(rows * columns - 1, 0), 0);
                    check.due("one more of " + text, x.rose(rows * columns, 0), -2);
                }
            }
        }
        faultAt("wall @999 1;", 3);
        faultAt("wall 1 @999;", 3);
        faultAt("wall 1@;", 2);
        faultAt("wall@;", 2);
        faultAt("wall 1 1 @1;", 2);

        check.said("numbered row by row from 0 on");
        RoseWall two = read("wall 2 3;row 0 1 2 3;row 1 4 5 6;", 3);
        RoseWall three = read("wall 3 2;row 0 1 2;row 1 3 4;row 2 5 6;", 4);
        for (int c = 0; c < 6; c++) {
            check.due("2 3: rose " + c, two.rose(c, 0), c + 1);
            check.due("3 2: rose " + c, three.rose(c, 0), c + 1);
        }
    }

    private static void kinds() {
        check.said("row: its KINDS, 0 to 9");
        for (int kind = 0; kind <= 12; kind++) {
            if (kind <= 9) {
                check.due("kind " + kind, read("wall 1 2;row 0 0 " + kind + ";", 2).rose(1, 0), kind);
                check.due("kind " + kind, read("wall 1 2;row 0 " + kind + " 0;", 2).rose(0, 0), kind);
            } else {
                faultAt("wall 1 2;row 0 0 @" + kind + ";", 3);
                faultAt("wall 1 2;row 0 @" + kind + " 0;", 3);
            }
        }
        check.said("row N: a row that there is");
        for (int rows = 1; rows <= 3; rows++) {
            read("wall " + rows + " 1;row " + (rows - 1) + " 5;", 2);
            faultAt("wall " + rows + " 1;row @" + rows + " 5;", 3);
        }
        faultAt("wall 3 1;row @999 5;", 3);

        check.said("as many as columns (too many, too few KINDS: what stands in place of one)");
        for (int columns = 1; columns <= 3; columns++) {
            String wall = "wall 2 " + columns + ";row 1";
            String some = " 7".repeat(columns - 1);
            read(wall + " 7" + some + ";", 2);
            faultAt(wall + some + "@;", 2);
            faultAt(wall + some + " @", 2);
            faultAt(wall + some + " @row 0", 2);
            faultAt(wall + some + " 7 @7;", 2);
            faultAt(wall + some + " 7 @99;", 2);
            faultAt(wall + some + " 7 @9999;", 1);
        }
        faultAt("wall 2 2;row@;", 2);

        check.said("(all 0; a later one of the same row strikes)");
        RoseWall x = read("wall 2 2;row 0 1 2;row 1 3 4;row 0 5 0;", 4);
        int[] due = {5, 0, 3, 4};
        for (int c = 0; c < 4; c++) {
            check.due("kind of " + c, x.rose(c, 0), due[c]);
            check.due("kind of " + c + ", untold", read("wall 2 2;row " + (c < 2 ? 1 : 0) + " 8 8;", 2).rose(c, 0), 0);
        }
    }

    private static void tenants() {
        check.said("tenant: patience 0 to 9");
        for (int patience = 0; patience <= 11; patience++) {
            if (patience <= 9) {
                check.due("patience " + patience, read(W + "tenant patience " + patience + ";", 2).tenant(0, 0), patience);
            } else {
                faultAt(W + "tenant patience @" + patience + ";", 3);
            }
        }
        faultAt(W + "tenant patience@;", 2);
        faultAt(W + "tenant patience 1 @1;", 2);
        faultAt(W + "tenant patience @patience 1;", 2);
        check.said("(9; a later one strikes)");
        check.due("untold", read(W + "tenant;", 2).tenant(0, 0), 9);
        check.due("three told", read(W + "tenant patience 1 patience 8 patience 0;", 2).tenant(0, 0), 0);
        check.due("the other one keeps its own", read(W + "tenant patience 1;tenant patience 2;", 3).tenant(0, 0), 1);

        check.said("numbered from 0 on, 4 at most; 4 the first TOKEN of a 5th tenant");
        StringBuilder text = new StringBuilder(W);
        for (int t = 0; t < 4; t++) {
            text.append("tenant patience ").append(t + 2).append(";");
            RoseWall x = read(text.toString(), t + 2);
            check.due("tenants", x.count(1), t + 1);
            check.due("the last one", x.tenant(t, 0), t + 2);
            check.due("one more", x.tenant(t + 1, 0), -2);
        }
        faultAt(text + "@tenant;", 4);
        faultAt(text + " @tenant", 4);
        faultAt(text + "temper 1;@tenant patience 10;", 4);
        faultAt(text + "@tenant ?", 4);
        faultAt(text + "temper @tenant;", 2);
        faultAt(text + "in 0 @tenant;", 2);
        faultAt(text + "@tenants;", 2);
        read(text + "goes : tenant = tenant;in 3;", 7);

        check.said("in: a TENANT told ahead (nobody; a later one strikes); 3 a TENANT that isn't told");
        check.due("nobody", read(W + "tenant;", 2).count(3), -1);
        for (int t = 0; t < 4; t++) {
            String told = W + "tenant;".repeat(t + 1);
            check.due("in the last of " + (t + 1), read(told + "in " + t + ";", t + 3).count(3), t);
            check.due("in the first of " + (t + 1), read(told + "in 0;", t + 3).count(3), 0);
            faultAt(told + "in @" + (t + 1) + ";", 3);
        }
        faultAt(W + "in @0;", 3);
        faultAt(W + "in @0;tenant;", 3);
        faultAt(W + "tenant;in @1;tenant;", 3);
        faultAt(W + "tenant;in @9;", 3);
        faultAt(W + "tenant;in@;", 2);
        check.due("later ones strike", read(W + "tenant;tenant;in 1;in 0;", 5).count(3), 0);
        check.due("later ones strike", read(W + "tenant;tenant;in 0;in 1;", 5).count(3), 1);
    }

    private static void lines() {
        check.said("turned: a ROSE that is TURNED (once is enough)");
        for (int roses = 1; roses <= 3; roses++) {
            check.due("the first", read("wall 1 " + roses + ";turned 0;", 2).count(2), 1);
            check.due("the last", read("wall 1 " + roses + ";turned " + (roses - 1) + ";", 2).count(2), 1 << roses - 1);
            faultAt("wall 1 " + roses + ";turned @" + roses + ";", 3);
        }
        check.due("the last of nine", read("wall 3 3;turned 8;", 2).count(2), 256);
        faultAt("wall 3 3;turned @9;", 3);
        check.due("twice", read("wall 1 2;turned 1;turned 1;", 3).count(2), 2);
        check.due("three times", read("wall 1 2;turned 1;turned 0;turned 1;turned 1;", 5).count(2), 3);
        faultAt("wall 1 2;turned@;", 2);
        faultAt("wall 1 2;turned 0 @1;", 2);

        check.said("face: ROSES that make it (a later one strikes)");
        check.due("the first", read("wall 3 3;face 0;", 2).count(5), 1);
        check.due("all", read("wall 3 3;face 8 7 6 5 4 3 2 1 0;", 2).count(5), 511);
        check.due("twice the same", read("wall 3 3;face 8 8;", 2).count(5), 256);
        check.due("later ones strike", read("wall 3 3;face 0 1;face 2;", 3).count(5), 4);
        faultAt("wall 3 3;face@;", 2);
        faultAt("wall 3 3;face @9;", 3);
        faultAt("wall 3 3;face 0 1 @9 10;", 3);
        faultAt("wall 1 1;face 0 @1;", 3);
        faultAt("wall 1 1;face 0 @face 0;", 2);

        check.said("open: how likely the blind is, in 10, 0 to 10 (5)");
        for (int open = 0; open <= 12; open++) {
            String text = W + "tenant;in 0;goes : light = 1;open ";
            if (open <= 10) {
                RoseWall x = read(text + open + ";", 5);
                check.due("open " + open, x.chance(1, 0) * 10, (10 - open) * x.chance(1, 1));
            } else {
                faultAt(text + "@" + open + ";", 3);
            }
        }
        RoseWall untold = read(W + "tenant;in 0;goes : light = 1;", 4);
        check.due("untold", untold.chance(1, 0) * 10 + untold.chance(1, 1), 12);
        check.due("later ones strike", read(W + "tenant;in 0;goes : light = 1;open 0;open 10;", 6).chance(1, 0), 0);
        faultAt(W + "open@;", 2);

        check.said("temper 0 to 9 (0)");
        for (int temper = 0; temper <= 11; temper++) {
            if (temper <= 9) {
                check.due("temper " + temper, read(W + "temper " + temper + ";", 2).count(6), temper);
            } else {
                faultAt(W + "temper @" + temper + ";", 3);
            }
        }
        check.due("untold", read(W, 1).count(6), 0);
        check.due("later ones strike", read(W + "temper 9;temper 0;", 3).count(6), 0);
        faultAt(W + "temper@;", 2);

        check.said("later ones strike, of turns, goes, too");
        RoseWall laws = read(W + "tenant;in 0;turns : 1 = 0;goes : 1 = 1;turns : 1 = 1;goes : 1 = 0;", 7);
        check.due("turns", laws.night(0), 1);
        check.due("goes", laws.count(3), 0);
        laws = read(W + "tenant;in 0;turns : 1 = 1;goes : 1 = 0;turns : 1 = 0;goes : 1 = 1;", 7);
        check.due("turns", laws.night(0), 0);
        check.due("goes", laws.count(3), -1);
    }

    private static boolean isBlank(int b) { return b == 10 || b == 32; }
    private static boolean isLetter(int b) { return b >= 'a' && b <= 'z'; }
    private static boolean isDigit(int b) { return b >= '0' && b <= '9'; }
    private static boolean isSign(int b) { return b < 128 && ";:+-*()[]=<>".indexOf(b) >= 0; }

    private static void tokens() {
        check.said("between them blanks (10, 32): words (small letters), N, the signs; 1 no TOKEN begins so");
        for (int b = 0; b < 256; b++) {
            char sign = (char) b;
            boolean token = isLetter(b) || isDigit(b) || isSign(b);
            if (isBlank(b)) {
                read(W + sign, 1);
                read(W + "temper" + sign + "1;", 2);
                read(sign + W + "temper 1" + sign + ";" + sign, 2);
            } else {
                fault(W + sign, token ? 2 : 1, 9);
                fault("" + sign, token ? 2 : 1, 0);
                if (b == '0') {
                    read(W + "temper" + sign + "1;", 2);
                } else {
                    fault(W + "temper" + sign + "1;", isDigit(b) ? 3 : token ? 2 : 1, isLetter(b) ? 9 : 15);
                }
            }
        }
        check.said("as long as they go on");
        check.due("a word ends where a number begins", read("wall3 3;temper7;", 2).count(6), 7);
        faultAt("wall 1@wall;", 2);
        faultAt(W + "@temperr 1;", 2);
        faultAt(W + "@tempe r 1;", 2);
        faultAt(W + "open @in 1;", 2);
        faultAt(W + "turns : 1 = 1 @notx = 1;", 2);
        check.due("as long as they go on: not 1", read(W + "turns : not1=1;", 2).rose(0, 3), 0);

        check.said("N (1 to 3 digits); 4 digits and more: at their first");
        check.due("1 digit", read(W + "turns : 9 > 8;", 2).rose(0, 3), 1);
        check.due("2 digits", read(W + "turns : 10 > 9;", 2).rose(0, 3), 1);
        check.due("3 digits", read(W + "turns : 100 > 99;", 2).rose(0, 3), 1);
        check.due("noughts ahead", read(W + "temper 003;", 2).count(6), 3);
        check.due("noughts alone", read(W + "temper 000;", 2).count(6), 0);
        faultAt(W + "temper @0003;", 1);
        faultAt(W + "temper @0000;", 1);
        faultAt(W + "turns : 1 < @1000;", 1);
        faultAt(W + "temper @12345678901234567890;", 1);
        faultAt(W + "temper @1000", 1);
        faultAt(W + "temper 1 @1000;", 1);
        faultAt("@1000", 1);
        faultAt("wall @1000 1;", 1);
        faultAt(W + "temper @100;", 3);
    }

    private static void faults() {
        check.said("FAULTS, the first along the text");
        faultAt(W + "temper @10;?;", 3);
        faultAt(W + "@ivy ?", 2);
        faultAt(W + "@? ivy", 1);
        faultAt("wall @4 0;", 3);
        faultAt("wall @0 9999;", 3);
        faultAt("wall 3 @9999;", 1);
        faultAt(W + "temper 1 @temper 10;", 2);
        faultAt(W + "tenant;tenant;tenant;tenant;@tenant;?", 4);
        faultAt(W + "tenant;tenant;tenant;tenant;open @11;tenant;", 3);
        faultAt(W + "turns : ((((((@(?", 4);
        faultAt(W + "turns : (((((@?((", 1);

        check.said("of one TOKEN the least kind");
        faultAt(W + "@1000;", 1);
        faultAt(W + "temper 1 @99;", 2);
        faultAt(W + "temper 1 @1000;", 1);
        faultAt(W + "row 0 @1000;", 1);
        faultAt(W + "row 0 1 @99;", 2);
        faultAt(W + "tenant;tenant;tenant;tenant @tenant;", 2);
        faultAt(W + "turns : ((((((@not", 2);
        faultAt(W + "turns : ((((((@[", 2);
        faultAt(W + "turns : ((((((1@(", 2);
        faultAt(W + "turns : not not not not not not 1@[", 2);
        faultAt(W + "turns : not not not not not not 1 = @[", 2);
        faultAt(W + "turns : not not not not not not 1 = @not", 2);

        check.said("2 it can't stand there (the end: the text's length)");
        String[] cut = {"", " ", "wall", "wall ", "wall 1", "wall 1 1", "wall 1 1 \n", W + "row", W + "row 0", W + "row 0 0", W + "tenant", W + "tenant patience", W + "tenant;in",
            W + "turned", W + "turned 0", W + "face", W + "face 0", W + "open", W + "open 1  ", W + "temper", W + "turns", W + "turns :", W + "turns : 1", W + "turns : 1 =",
            W + "turns : 1 = 1", W + "turns : not", W + "turns : [", W + "turns : (", W + "turns : [1=1", W + "turns : (1", W + "turns : 1 = 1 or", W + "turns : 1 = 1 and",
            W + "turns : 1 +", W + "turns : 1 -", W + "turns : 1 *", W + "goes", W + "goes :\n", W + "goes : all = all"};
        for (String text : cut) {
            fault(text, 2, text.length());
        }
        RoseWall x = new RoseWall();
        Check.feed(x, "wall 1 1;temper 1;");
        check.due("room(8)", x.room(8), -32);
        check.due("the text's length, not the tape's", x.fault(1), 8);

        check.said("wall must be told first, and once");
        for (String line : new String[] {"row 0 0", "tenant", "in 0", "turned 0", "face 0", "open 1", "temper 1", "turns : 1 = 1", "goes : 1 = 1"}) {
            faultAt("@" + line + ";", 2);
            faultAt("@" + line + ";" + W, 2);
            faultAt(W + (line.startsWith("in") ? "tenant;" : "") + line + ";@wall 1 1;", 2);
            read(W + (line.startsWith("in") ? "tenant;" : "") + line + ";", line.startsWith("in") ? 3 : 2);
        }
        faultAt(W + "@" + W, 2);
        faultAt("wall 1 @wall 1 1;", 2);

        check.said("a word of the other law");
        for (String word : new String[] {"cell", "kind", "near", "turned", "temper"}) {
            read(W + "turns : 1 = " + word + ";", 2);
            faultAt(W + "goes : 1 = @" + word + ";", 2);
            faultAt(W + "goes : @" + word + " = 1;", 2);
        }
        for (String word : new String[] {"all", "face", "patience"}) {
            read(W + "goes : 1 = " + word + ";", 2);
            faultAt(W + "turns : 1 = @" + word + ";", 2);
            faultAt(W + "turns : @" + word + " = 1;", 2);
        }
        for (String word : new String[] {"light", "tenant"}) {
            read(W + "goes : 1 = " + word + ";turns : 1 = " + word + ";", 3);
        }
        for (String word : new String[] {"wall", "row", "in", "open", "turns", "goes", "or", "and", "not", "ivy", ";", ":", ")", "]", "[", "=", "-"}) {
            faultAt(W + "goes : 1 = @" + word + ";", 2);
            faultAt(W + "turns : 1 = @" + word + ";", 2);
        }
    }

    private static void within() {
        check.said("At most six of not [ ( within one another; 4 a seventh");
        String[] opening = {"not ", "[ ", "( "};
        String[] closing = {"", " ]", " )"};
        for (int kinds = 0; kinds < 3 * 3 * 3 * 3 * 3 * 3; kinds++) {
            StringBuilder open = new StringBuilder();
            StringBuilder close = new StringBuilder();
            int rest = kinds;
            boolean sum = false;
            boolean can = true;
            for (int i = 0; i < 6; i++, rest /= 3) {
                can &= !sum || rest % 3 == 2;
                sum |= rest % 3 == 2;
                open.append(opening[rest % 3]);
                close.insert(0, closing[rest % 3]);
                if (sum && rest % 3 != 2) {
                    break;
                }
            }
            if (!can) {
                continue;
            }
            String law = W + "turns : " + open;
            String mid = sum ? "1" : "1 = 1";
            String inner = close.toString();
            int truths = inner.indexOf(']') < 0 ? inner.length() : inner.indexOf(']') - 1;
            String whole = sum ? inner.substring(0, truths) + " = 1" + inner.substring(truths) : inner;
            read(law + mid + whole + ";", 2);
            faultAt(law + "@(", 4);
            faultAt(law + "1 + 2 * @(", 4);
            if (!sum) {
                faultAt(law + "@not", 4);
                faultAt(law + "@[", 4);
                faultAt(law + "1 = @(", 4);
                faultAt(law + "1 < 2 - @(", 4);
            }
        }
        check.said("within one another: those beside one another don't count");
        read(W + "turns : " + "[ 1 = 1 ] and ".repeat(7) + "1 = 1;", 2);
        read(W + "turns : " + "(1)*".repeat(7) + "1 = 1;", 2);
        read(W + "turns : " + "not 1 = 1 or ".repeat(7) + "1 = 1;", 2);
        read(W + "turns : ((((((1)))))) + ((((((1)))))) = ((((((2)))))) and [[[[[[1=1]]]]]];goes : ((((((1)))))) = 1;", 3);
        faultAt(W + "turns : ((((((1)))))) + ((((((@(1", 4);
        faultAt(W + "turns : 1 = 1;goes : [[[[[[@[", 4);
    }

    private static void keptSums() {
        check.said("Each + - * is kept from -1,000,000 to 1,000,000");
        String less = "999*999+999+999";
        String most = "(999+1)*(999+1)";
        String[] holding = {
            most + "-1=" + less, most + ">" + less, less + "+1=" + most, less + "+1>" + less,
            less + "+2=" + most, less + "+2=" + less + "+1", less + "+2-1=" + less, less + "+999-1=" + less,
            "0-" + "999*999-999-999-1<0-999*999-999-999", "0-999*999-999-999-1=0-" + most, "0-999*999-999-999-2=0-" + most, "0-999*999-999-999-2+1=0-999*999-999-999",
            "(999+2)*(999+1)=" + most, "(999+2)*(999+1)-1=" + less, "(0-999-1)*(999+1)=0-" + most, "(0-999-1)*(999+1)<0-999*999-999-999",
            "(0-999-2)*(999+1)=0-" + most, "(0-999-2)*(999+1)+1=0-999*999-999-999",
            most + "*(999+1)=" + most, most + "*" + most + "=" + most, "(0-" + most + ")*" + most + "=0-" + most, "(0-" + most + ")*(0-" + most + ")=" + most,
            most + "*" + most + "*0=0", "0-" + most + "-" + most + "+" + most + "=0", most + "+" + most + "-" + most + "=0", "999*999=998*999+999"};
        for (String truth : holding) {
            check.due(truth, read(W + "turns : " + truth + ";", 2).rose(0, 3), 1);
            RoseWall x = read(W + "tenant;goes : " + truth + ";", 3);
            check.due(truth + ", of goes", x.tenant(0, 2), 1);
        }
    }

    public static void main(String[] args) {
        texts();
        walls();
        kinds();
        tenants();
        lines();
        tokens();
        faults();
        within();
        keptSums();
        check.end();
    }
}
