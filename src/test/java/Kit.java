import java.nio.charset.StandardCharsets;

/** What the tests share: answers that are due, and texts told to a desk. */
final class Kit {
    static final long FAR = -9_000_000_000_000_000_000L;
    static final String HEAD = "desk first 0 curve 0 shift 0;";

    private static int wrong = 0;
    private static int asked = 0;

    private Kit() {
    }

    static void due(String call, long got, long want) {
        asked++;
        if (got != want) {
            wrong++;
            System.out.println(call + " answered " + got + ", due is " + want);
        }
    }

    static void end() {
        System.out.println(asked + " answers, " + wrong + " wrong");
        System.exit(wrong == 0 && asked > 0 ? 0 : 1);
    }

    /** Feeds a text, filled up with blanks to a multiple of twenty. */
    static void feed(PillarDesk x, String text) {
        byte[] bytes = text.getBytes(StandardCharsets.ISO_8859_1);
        for (int at = 0; at < bytes.length; at += 20) {
            x.feed(word(bytes, at), word(bytes, at + 4), word(bytes, at + 8), word(bytes, at + 12), word(bytes, at + 16));
        }
    }

    static int word(byte[] bytes, int at) {
        int word = 0;
        for (int k = at; k < at + 4; k++) {
            word = word << 8 | (k < bytes.length ? bytes[k] & 255 : ' ');
        }
        return word;
    }

    static int tell(PillarDesk x, String text) {
        feed(x, text);
        return x.desk(text.length());
    }

    static PillarDesk told(String text) {
        PillarDesk x = new PillarDesk();
        int lines = tell(x, text);
        if (lines < 1) {
            due("desk: " + text, lines, 1);
        }
        return x;
    }

    static PillarDesk lines(String... lines) {
        StringBuilder text = new StringBuilder(HEAD);
        for (String line : lines) {
            text.append(line).append(';');
        }
        return told(text.toString());
    }

    static void tray(PillarDesk x, int tray, long... numbers) {
        due("numbers", x.numbers(tray, 3, numbers.length), 0);
        for (int k = 0; k < numbers.length; k++) {
            due("write", x.write(tray, k, numbers[k]), numbers[k]);
        }
    }
}
