/** Promises 6 to 12: what is told of stations, borders and channels. */
public final class ToldTest {
    /** a, b, c in a row: each clashes with the next; the border's reach ends just at a. */
    static final String ROW = "channels 4;station a at 0 0 reach 10 on 1 worth 30;"
        + "station b at 15 0 reach 10 on 2 worth 20 not 4;station c at 30 1 reach 10 on 4 worth 10;"
        + "border at 0 5 reach 5 not 3;border at 30 4 reach 2 not 1,2";

    public static void main(String[] args) {
        about();
        wrongOnes();
        station();
        border();
        far();
        clashAndBrushAtTheirEdges();
        near();
        on();
        free();
        Check.end();
    }

    private static void about() {
        ChannelSqueeze x = Check.told(ROW);
        int[] want = {4, 3, 2, 7, 0, 60, 0, 4, 0};
        for (int what = 0; what < want.length; what++) {
            Check.gives(x, "about(" + what + ")", x.about(what), want[what]);
        }
        Check.refuses(x, "about(-1)", x.about(-1), 1);
        Check.refuses(x, "about(9)", x.about(9), 1);
        x.buy(2, 40);
        int[] then = {4, 3, 2, 3, 0, 50, 40, 2, 1};
        for (int what = 0; what < then.length; what++) {
            Check.gives(x, "about(" + what + ") then", x.about(what), then[what]);
        }
        x.buy(0, 1);
        x.buy(1, 1);
        int[] last = {4, 3, 2, 0, 0, 0, 42, 0, 3};
        for (int what = 0; what < last.length; what++) {
            Check.gives(x, "about(" + what + ") at last", x.about(what), last[what]);
        }
    }

    private static void wrongOnes() {
        ChannelSqueeze x = Check.told(ROW);
        x.move(0, 3, true);
        Check.gives(x, "one that isn't on its list is wrong", x.about(4), 1);
        x.move(0, 2, true);
        Check.gives(x, "two that disturb each other are wrong", x.about(4), 3);
        x.buy(1, 0);
        Check.gives(x, "one off the air disturbs nobody", x.about(4), 0);
        x.ban(0, 2);
        Check.gives(x, "a ban makes wrong", x.about(4), 1);
        ChannelSqueeze told = Check.told("channels 2;station a at 0 0 reach 1 on 2 worth 1 not 2");
        Check.gives(told, "the channel told may be banned", told.about(4), 1);
    }

    private static void station() {
        ChannelSqueeze x = Check.told(ROW);
        int[][] want = {{0, 0, 10, 1, 30, 1, 11, 0}, {15, 0, 10, 2, 20, 1, 7, 8}, {30, 1, 10, 4, 10, 1, 15, 0}};
        for (int s = 0; s < 3; s++) {
            for (int what = 0; what < 8; what++) {
                Check.gives(x, "station(" + s + ", " + what + ")", x.station(s, what), want[s][what]);
            }
        }
        Check.refuses(x, "station(-1, 0)", x.station(-1, 0), 1);
        Check.refuses(x, "station(3, 0)", x.station(3, 0), 1);
        Check.refuses(x, "station(0, -1)", x.station(0, -1), 1);
        Check.refuses(x, "station(0, 8)", x.station(0, 8), 1);
        x.move(1, 3, true);
        x.value(1, 999);
        x.ban(1, 1);
        x.ban(1, 4);
        x.buy(1, 0);
        int[] then = {15, 0, 10, 3, 999, 0, 14, 1};
        for (int what = 0; what < 8; what++) {
            Check.gives(x, "station(1, " + what + ") then", x.station(1, what), then[what]);
        }
    }

    private static void border() {
        ChannelSqueeze x = Check.told(ROW);
        int[][] want = {{0, 5, 5, 4, 1}, {30, 4, 2, 3, 0}};
        for (int b = 0; b < 2; b++) {
            for (int what = 0; what < 5; what++) {
                Check.gives(x, "border(" + b + ", " + what + ")", x.border(b, what), want[b][what]);
            }
        }
        Check.refuses(x, "border(-1, 0)", x.border(-1, 0), 1);
        Check.refuses(x, "border(2, 0)", x.border(2, 0), 1);
        Check.refuses(x, "border(0, -1)", x.border(0, -1), 1);
        Check.refuses(x, "border(0, 5)", x.border(0, 5), 1);
        x.buy(0, 0);
        Check.gives(x, "a border counts for those off the air, too", x.border(0, 4), 1);
        ChannelSqueeze two = Check.told("channels 3;border at 3 4 reach 5 not 1;border at 0 0 reach 1 not 1,3;"
            + "station a at 0 0 reach 60 on 1 worth 1 not 1;station b at 9 4 reach 60 on 1 worth 1");
        Check.gives(two, "the border's own reach counts", two.border(0, 4), 1);
        Check.gives(two, "two borders and a ban", two.station(0, 6), 2);
        Check.gives(two, "no border", two.station(1, 6), 7);
    }

    private static void far() {
        ChannelSqueeze x = Check.told("channels 1;station a at 0 99 reach 1 on 1 worth 1;"
            + "station b at 99 0 reach 1 on 1 worth 1;station c at 3 95 reach 1 on 1 worth 1");
        Check.gives(x, "far(0, 1)", x.far(0, 1), 19602);
        Check.gives(x, "far(1, 0)", x.far(1, 0), 19602);
        Check.gives(x, "far(0, 2)", x.far(0, 2), 25);
        Check.gives(x, "far(2, 1)", x.far(2, 1), 96 * 96 + 95 * 95);
        Check.gives(x, "far(1, 1)", x.far(1, 1), 0);
        Check.refuses(x, "far(3, 0)", x.far(3, 0), 1);
        Check.refuses(x, "far(0, 3)", x.far(0, 3), 1);
        Check.refuses(x, "far(-1, 0)", x.far(-1, 0), 1);
        Check.refuses(x, "far(0, -1)", x.far(0, -1), 1);
    }

    private static ChannelSqueeze pair(int apart, int reach, int other) {
        return Check.told("channels 3;station a at 0 0 reach " + reach + " on 1 worth 1;station b at "
            + apart + " 0 reach " + other + " on 1 worth 1");
    }

    private static void clashAndBrushAtTheirEdges() {
        int[][] rows = {{12, 5, 7, 2, 0}, {13, 5, 7, 0, 0}, {7, 5, 7, 2, 2}, {8, 5, 7, 2, 0}, {7, 7, 5, 2, 2}, {0, 1, 1, 2, 2}};
        for (int[] row : rows) {
            ChannelSqueeze x = pair(row[0], row[1], row[2]);
            Check.gives(x, "clash " + row[0] + " apart", x.near(0, 0), row[3]);
            Check.gives(x, "brush " + row[0] + " apart", x.near(0, 1), row[4]);
            Check.gives(x, "clash of the other", x.near(1, 0), row[3] / 2);
            Check.gives(x, "brush of the other", x.near(1, 1), row[4] / 2);
        }
    }

    private static void near() {
        ChannelSqueeze x = pair(7, 5, 7);
        Check.gives(x, "on one channel", x.near(0, 2), 2);
        x.move(1, 2, true);
        Check.gives(x, "on channels beside each other", x.near(0, 2), 2);
        Check.gives(x, "the other way round", x.near(1, 2), 1);
        x.move(1, 3, true);
        Check.gives(x, "on channels farther apart", x.near(0, 2), 0);
        x.move(1, 1, true);
        x.buy(1, 0);
        Check.gives(x, "the other is off the air", x.near(0, 2), 0);
        Check.gives(x, "itself is off the air", x.near(1, 2), 0);
        Check.gives(x, "they clash all the same", x.near(1, 0), 1);
        Check.gives(x, "they brush all the same", x.near(1, 1), 1);
        ChannelSqueeze y = pair(8, 5, 7);
        Check.gives(y, "clash on one channel", y.near(0, 2), 2);
        y.move(1, 2, true);
        Check.gives(y, "clash without brush, beside", y.near(0, 2), 0);
        Check.refuses(x, "near(-1, 0)", x.near(-1, 0), 1);
        Check.refuses(x, "near(2, 0)", x.near(2, 0), 1);
        Check.refuses(x, "near(0, -1)", x.near(0, -1), 1);
        Check.refuses(x, "near(0, 3)", x.near(0, 3), 1);
    }

    private static void on() {
        ChannelSqueeze x = Check.told(ROW);
        x.move(2, 1, true);
        Check.gives(x, "on(1)", x.on(1), 5);
        Check.gives(x, "on(2)", x.on(2), 2);
        Check.gives(x, "on(4)", x.on(4), 0);
        x.buy(0, 0);
        Check.gives(x, "on(1) without one off the air", x.on(1), 4);
        Check.refuses(x, "on(0)", x.on(0), 2);
        Check.refuses(x, "on(5)", x.on(5), 2);
        Check.refuses(x, "on(-1)", x.on(-1), 2);
        ChannelSqueeze alone = Check.told(ROW);
        alone.buy(1, 0);
        alone.buy(2, 0);
        Check.gives(alone, "the greatest channel of the first alone", alone.about(7), 1);
    }

    private static void free() {
        ChannelSqueeze x = Check.told(ROW);
        Check.gives(x, "free(0)", x.free(0), 9);
        Check.gives(x, "free(1)", x.free(1), 6);
        Check.gives(x, "free(2)", x.free(2), 13);
        x.buy(1, 0);
        Check.gives(x, "free(0) without b", x.free(0), 11);
        Check.gives(x, "free(1) of one off the air", x.free(1), 6);
        ChannelSqueeze y = pair(7, 5, 7);
        y.move(1, 2, true);
        Check.gives(y, "none is free beside one it brushes", y.free(0), 0);
        Check.gives(y, "channel 3 is free", y.free(1), 4);
        Check.refuses(x, "free(-1)", x.free(-1), 1);
        Check.refuses(x, "free(3)", x.free(3), 1);
    }
}
