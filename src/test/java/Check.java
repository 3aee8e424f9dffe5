import java.nio.charset.StandardCharsets;

/** What the tests share: counting wrong answers, and feeding texts. */
final class Check {
    private static int wrong = 0;
    private static int asked = 0;
    private static String ahead = "";

    private Check() {
    }

    /** What stands ahead of each message from here on. */
    static void begin(String of) {
        ahead = of;
    }

    static int asked() {
        return asked;
    }

    static void same(String call, long got, long want) {
        asked++;
        if (got != want) {
            wrong++;
            System.out.println(ahead + call + " answered " + got + ", due is " + want);
        }
    }

    static void text(String what, String got, String want) {
        asked++;
        if (!got.equals(want)) {
            wrong++;
            System.out.println(ahead + what + " is " + got + ", due is " + want);
        }
    }

    static void isTrue(String what, boolean holds) {
        same(what, holds ? 1 : 0, 1);
    }

    /** An answer that was not refused: trouble() is 0 and where() NONE behind it. */
    static void gives(ChannelSqueeze x, String call, int got, int want) {
        same(call, got, want);
        same("trouble() behind " + call, x.trouble(), 0);
        same("where() behind " + call, x.where(), ChannelSqueeze.NONE);
    }

    static void refuses(ChannelSqueeze x, String call, int got, int trouble) {
        same(call, got, ChannelSqueeze.NONE);
        same("trouble() behind " + call, x.trouble(), trouble);
        same("where() behind " + call, x.where(), ChannelSqueeze.NONE);
    }

    /** Feeds a text, with blanks up to the next twenty bytes. */
    static void feed(ChannelSqueeze x, String text) {
        byte[] bytes = text.getBytes(StandardCharsets.ISO_8859_1);
        for (int from = 0; from < bytes.length; from += 20) {
            int[] five = new int[5];
            for (int i = 0; i < 20; i++) {
                int b = from + i < bytes.length ? bytes[from + i] & 255 : ' ';
                five[i / 4] |= b << (24 - 8 * (i % 4));
            }
            x.feed(five[0], five[1], five[2], five[3], five[4]);
        }
    }

    static int tell(ChannelSqueeze x, String text) {
        feed(x, text);
        return x.text(text.length());
    }

    static ChannelSqueeze told(String text) {
        ChannelSqueeze x = new ChannelSqueeze();
        isTrue("the text is taken: " + text, tell(x, text) > 0);
        return x;
    }

    /** All that a call may change, but trouble() and where(), as one text. */
    static String state(ChannelSqueeze x) {
        StringBuilder all = new StringBuilder();
        all.append(x.bytes()).append('/').append(x.fault()).append('/');
        for (int what = 0; what <= 8; what++) {
            all.append(x.about(what)).append(' ');
        }
        int stations = x.about(1);
        for (int s = 0; s < stations; s++) {
            for (int what = 0; what <= 7; what++) {
                all.append(x.station(s, what)).append(' ');
            }
        }
        int borders = x.about(2);
        for (int b = 0; b < borders; b++) {
            for (int what = 0; what <= 4; what++) {
                all.append(x.border(b, what)).append(' ');
            }
        }
        return all.toString();
    }

    static void end() {
        System.out.println(wrong == 0 ? asked + " answers are as due" : wrong + " of " + asked + " answers are not as due");
        if (wrong != 0) {
            System.exit(1);
        }
    }
}
