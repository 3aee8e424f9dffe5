/** Promises 26 to 29: what one is due, who is heard, islands, lower channels. */
public final class BoughtTest {
    private static final String ROW = "channels 4;station a at 0 0 reach 10 on 1 worth 30;"
        + "station b at 15 0 reach 10 on 2 worth 20;station c at 30 0 reach 10 on 4 worth 10";

    public static void main(String[] args) {
        due();
        heard();
        islands();
        lower();
        Check.end();
    }

    private static void due() {
        ChannelSqueeze x = Check.told(ROW);
        Check.gives(x, "due(1, 1)", x.due(1, 1), 40);
        Check.gives(x, "due of one that isn't bought", x.due(1, 0), -2);
        Check.gives(x, "nobody is bought", x.due(2, 1), -2);
        x.value(1, 99);
        Check.gives(x, "due(1, 0)", x.due(1, 0), 89);
        Check.gives(x, "due(1, 2)", x.due(1, 2), 69);
        x.buy(2, 0);
        Check.gives(x, "those off the air don't count", x.due(1, 0), 99);
        Check.gives(x, "one off the air isn't bought", x.due(1, 2), -2);
        ChannelSqueeze y = Check.told("channels 5;station a at 9 9 reach 5 on 1 worth 5;"
            + "station b at 9 9 reach 5 on 1 worth 5;station c at 9 9 reach 5 on 1 worth 10;"
            + "station d at 9 9 reach 5 on 1 worth 0 not 1,2,3,4,5");
        Check.gives(y, "due(2, 0)", y.due(2, 0), 10);
        Check.gives(y, "due(2, 2)", y.due(2, 2), -2);
        Check.refuses(y, "without it there is no such set", y.due(2, 3), 6);
        Check.gives(y, "due(4, 0)", y.due(4, 0), 5);
        Check.refuses(x, "due(0, 0)", x.due(0, 0), 2);
        Check.refuses(x, "due(5, 0)", x.due(5, 0), 2);
        Check.refuses(x, "due(5, 3)", x.due(5, 3), 1);
        Check.refuses(x, "due(1, -1)", x.due(1, -1), 1);
    }

    private static void heard(ChannelSqueeze x, int atX, int atY, int... want) {
        for (int kind = 0; kind < 3; kind++) {
            Check.gives(x, "heard(" + atX + ", " + atY + ", " + kind + ")", x.heard(atX, atY, kind), want[kind]);
        }
    }

    private static void heard() {
        ChannelSqueeze x = Check.told(ROW);
        heard(x, 0, 0, 1, 1, 0);
        heard(x, 10, 0, 3, 3, 0);
        heard(x, 11, 0, 2, 2, 0);
        heard(x, 10, 1, 2, 2, 0);
        heard(x, 6, 8, 1, 1, 0);
        heard(x, 99, 99, 0, 0, 0);
        heard(x, 20, 0, 6, 10, 0);
        x.move(1, 1, true);
        heard(x, 7, 0, 3, 0, 1);
        x.buy(0, 0);
        heard(x, 7, 0, 2, 1, 0);
        ChannelSqueeze y = Check.told("channels 3;station a at 0 0 reach 9 on 1 worth 1;station b at 0 0 reach 9 on 1 worth 1;"
            + "station c at 0 0 reach 9 on 1 worth 1;station d at 0 0 reach 9 on 3 worth 1");
        heard(y, 0, 9, 15, 4, 1);
        int[][] bad = {{-1, 0}, {0, -1}, {100, 0}, {0, 100}, {Integer.MIN_VALUE, 0}};
        for (int[] b : bad) {
            Check.refuses(x, "heard(" + b[0] + ", " + b[1] + ", 0)", x.heard(b[0], b[1], 0), 2);
            Check.refuses(x, "heard(" + b[0] + ", " + b[1] + ", 3)", x.heard(b[0], b[1], 3), 1);
        }
        Check.refuses(x, "heard(0, 0, -1)", x.heard(0, 0, -1), 1);
        Check.gives(x, "heard(99, 0, 2)", x.heard(99, 0, 2), 0);
        Check.gives(x, "heard(0, 99, 2)", x.heard(0, 99, 2), 0);
    }

    private static void islands(ChannelSqueeze x, int... want) {
        for (int what = 0; what < 3; what++) {
            Check.gives(x, "islands(" + what + ")", x.islands(what), want[what]);
        }
    }

    private static void islands() {
        ChannelSqueeze x = Check.told(ROW);
        islands(x, 1, 3, 7);
        x.buy(1, 0);
        islands(x, 2, 1, 1);
        x.buy(0, 0);
        islands(x, 1, 1, 4);
        x.buy(2, 0);
        islands(x, 0, 0, 0);
        ChannelSqueeze y = Check.told("channels 1;station a at 0 0 reach 2 on 1 worth 1;station b at 90 0 reach 2 on 1 worth 1;"
            + "station c at 50 0 reach 2 on 1 worth 1;station d at 93 0 reach 2 on 1 worth 1;station e at 54 0 reach 2 on 1 worth 1");
        islands(y, 3, 2, 10);
        y.air(0);
        y.buy(1, 0);
        islands(y, 3, 2, 20);
        // the chain a c e g b d f h is found though its numbers leap to and fro
        ChannelSqueeze z = Check.told("channels 1;station a at 0 0 reach 2 on 1 worth 1;station b at 16 0 reach 2 on 1 worth 1;"
            + "station c at 4 0 reach 2 on 1 worth 1;station d at 20 0 reach 2 on 1 worth 1;"
            + "station e at 8 0 reach 2 on 1 worth 1;station f at 24 0 reach 2 on 1 worth 1;"
            + "station g at 12 0 reach 2 on 1 worth 1;station h at 28 0 reach 2 on 1 worth 1");
        islands(z, 1, 8, 255);
        ChannelSqueeze back = Check.told("channels 1;station a at 28 0 reach 2 on 1 worth 1;station b at 0 0 reach 2 on 1 worth 1;"
            + "station c at 4 0 reach 2 on 1 worth 1;station d at 8 0 reach 2 on 1 worth 1;"
            + "station e at 12 0 reach 2 on 1 worth 1;station f at 16 0 reach 2 on 1 worth 1;"
            + "station g at 20 0 reach 2 on 1 worth 1;station h at 24 0 reach 2 on 1 worth 1");
        islands(back, 1, 8, 255);
        Check.refuses(x, "islands(-1)", x.islands(-1), 1);
        Check.refuses(x, "islands(3)", x.islands(3), 1);
    }

    private static void lower() {
        ChannelSqueeze x = Check.told(ROW);
        Check.gives(x, "lower(0)", x.lower(0), 0);
        Check.gives(x, "lower(1)", x.lower(1), 0);
        Check.gives(x, "lower(2)", x.lower(2), 1);
        x.ban(2, 1);
        Check.gives(x, "lower(2) behind a ban", x.lower(2), 3);
        x.move(2, 3, true);
        Check.gives(x, "not its own channel, nor above", x.lower(2), 0);
        x.buy(1, 0);
        Check.gives(x, "lower(2) without b", x.lower(2), 2);
        x.move(1, 4, true);
        Check.gives(x, "lower of one off the air", x.lower(1), 2);
        Check.refuses(x, "lower(-1)", x.lower(-1), 1);
        Check.refuses(x, "lower(3)", x.lower(3), 1);
    }
}
