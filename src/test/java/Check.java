/** What the tests share: a count of wrong answers, and how a text comes onto the tape. */
final class Check {
    private int wrong;
    private int asked;
    private String sentence = "";

    /** The sentence of the document that the answers from here on are looked at for. */
    void said(String words) {
        sentence = "[" + words + "] ";
    }

    void due(String call, long got, long want) {
        asked++;
        if (got != want) {
            wrong++;
            System.out.println(sentence + call + " answered " + got + ", due is " + want);
        }
    }

    void same(String what, String got, String want) {
        asked++;
        if (!got.equals(want)) {
            wrong++;
            System.out.println(sentence + what + ": " + got + ", due is " + want);
        }
    }

    void end() {
        System.out.println(asked + " answers looked at, " + wrong + " not as due");
        if (wrong != 0) {
            System.exit(1);
        }
    }

    /** Feeds a text, filled up with blanks: how many bytes the tape has then. */
    static int feed(RoseWall x, String text) {
        int taped = x.count(9);
        for (int i = 0; i < text.length(); i += 20) {
            taped = x.feed(four(text, i), four(text, i + 4), four(text, i + 8), four(text, i + 12), four(text, i + 16));
        }
        return taped;
    }

    /** Feeds a text, and makes the room of it. */
    static int tell(RoseWall x, String text) {
        feed(x, text);
        return x.room(text.length());
    }

    static RoseWall told(String text) {
        RoseWall x = new RoseWall();
        int lines = tell(x, text);
        if (lines < 1) {
            throw new IllegalStateException(text + " answered " + lines);
        }
        return x;
    }

    /** A tray of sort 3 with these numbers. */
    static void fill(RoseWall x, int tray, long... numbers) {
        x.numbers(tray, 3, numbers.length);
        for (int i = 0; i < numbers.length; i++) {
            x.write(tray, i, numbers[i]);
        }
    }

    /** Of all that a call may change, so that a refused call can be seen to change nothing. */
    static String state(RoseWall x) {
        StringBuilder all = new StringBuilder();
        for (int what = 0; what <= 10; what++) {
            all.append(x.count(what)).append(' ');
        }
        return all.append(x.fault(0)).append(' ').append(x.fault(1)).toString();
    }

    private static int four(String text, int from) {
        int value = 0;
        for (int i = from; i < from + 4; i++) {
            value = value << 8 | (i < text.length() ? text.charAt(i) & 255 : ' ');
        }
        return value;
    }
}
