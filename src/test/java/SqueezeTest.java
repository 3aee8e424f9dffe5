/** Promises 22 to 25: squeezed rows, the order of the moves, steps. */
public final class SqueezeTest {
    /** a clashes with b, b with c; nobody brushes. */
    private static final String ROW = "channels 4;station a at 0 0 reach 10 on 1 worth 30;"
        + "station b at 15 0 reach 10 on 2 worth 20;station c at 30 0 reach 10 on 4 worth 10";
    /** a and b clash, c stands alone. */
    private static final String PAIR = "channels 4;station a at 10 1 reach 5 on 2 worth 1 not 3;"
        + "station b at 16 0 reach 3 on 4 worth 1 not 1;station c at 29 1 reach 7 on 4 worth 1";

    public static void main(String[] args) {
        squeeze();
        allMove();
        fewestMovesGoAheadOfTheFirstRow();
        likeOnesTheFirst();
        wrongOnesMustMove();
        thoseOffTheAirStand();
        order();
        noOrder();
        orderMindsBrushes();
        steps();
        refusals();
        Check.end();
    }

    private static void row(ChannelSqueeze x, int m, int moves, int... channels) {
        Check.gives(x, "squeeze(" + m + ")", x.squeeze(m), moves);
        for (int s = 0; s < channels.length; s++) {
            Check.gives(x, "squeezeOf(" + m + ", " + s + ")", x.squeezeOf(m, s), channels[s]);
        }
    }

    private static void squeeze() {
        ChannelSqueeze x = Check.told(ROW);
        String before = Check.state(x);
        row(x, 4, 0, 1, 2, 4);
        row(x, 3, 1, 1, 2, 1);
        row(x, 2, 1, 1, 2, 1);
        Check.gives(x, "squeeze(1)", x.squeeze(1), -2);
        Check.refuses(x, "squeezeOf(1, 0)", x.squeezeOf(1, 0), 6);
        Check.isTrue("nothing is changed", Check.state(x).equals(before));
        row(Check.told(PAIR), 2, 3, 1, 2, 1);
        ChannelSqueeze ten = Check.told("channels 10;station a at 0 0 reach 1 on 10 worth 1;station b at 0 1 reach 1 on 10 worth 1");
        row(ten, 10, 1, 1, 10);
    }

    private static void allMove() {
        StringBuilder text = new StringBuilder("channels 9");
        for (int s = 0; s < 8; s++) {
            text.append(";station ").append((char) ('a' + s)).append(" at ").append(10 * s).append(" 0 reach 5 on 9 worth 1");
        }
        ChannelSqueeze x = Check.told(text.toString());
        row(x, 9, 4, 1, 9, 1, 9, 1, 9, 1, 9);
        row(x, 8, 8, 1, 2, 1, 2, 1, 2, 1, 2);
        order(x, 8, 0, 1, 2, 3, 4, 5, 6, 7);
        Check.gives(x, "steps down to 2", x.steps(2, 0), 8);
        Check.gives(x, "lay(8)", x.lay(8), 8);
        Check.gives(x, "all channels", x.on(1) + 256 * x.on(2), 85 + 256 * 170);
    }

    private static void fewestMovesGoAheadOfTheFirstRow() {
        ChannelSqueeze x = Check.told(ROW);
        x.move(0, 2, true);
        x.move(1, 1, true);
        x.move(2, 2, true);
        row(x, 2, 0, 2, 1, 2);
        x.move(2, 1, true);
        row(x, 2, 1, 2, 1, 2);
        x.move(0, 4, true);
        x.move(1, 3, true);
        x.move(2, 4, true);
        row(x, 3, 2, 1, 3, 1);
        row(x, 2, 3, 1, 2, 1);
    }

    private static void likeOnesTheFirst() {
        ChannelSqueeze x = Check.told(ROW);
        x.move(1, 1, true);
        row(x, 4, 1, 1, 2, 4);
        x.move(0, 3, true);
        x.move(1, 3, true);
        row(x, 4, 1, 1, 3, 4);
        x.ban(0, 1);
        row(x, 4, 1, 2, 3, 4);
        x.ban(0, 2);
        x.ban(0, 4);
        row(x, 4, 1, 3, 1, 4);
    }

    private static void wrongOnesMustMove() {
        ChannelSqueeze x = Check.told(ROW);
        x.ban(0, 1);
        row(x, 4, 1, 3, 2, 4);
        x.ban(0, 3);
        x.ban(0, 4);
        row(x, 4, 2, 2, 1, 4);
        x.ban(0, 2);
        Check.gives(x, "one has no list", x.squeeze(4), -2);
    }

    private static void thoseOffTheAirStand() {
        ChannelSqueeze x = Check.told(ROW);
        x.buy(1, 0);
        row(x, 1, 1, 1, 2, 1);
        x.buy(2, 0);
        row(x, 1, 0, 1, 2, 4);
        x.buy(0, 0);
        row(x, 1, 0, 1, 2, 4);
        Check.gives(x, "no moves, no order", x.order(1, 0), -2);
        Check.gives(x, "no moves, no steps", x.steps(1, 0), 0);
    }

    private static void order(ChannelSqueeze x, int m, int... stations) {
        for (int i = 0; i < stations.length; i++) {
            Check.gives(x, "order(" + m + ", " + i + ")", x.order(m, i), stations[i]);
        }
        Check.gives(x, "order(" + m + ") hasn't so many", x.order(m, stations.length), -2);
        Check.gives(x, "order(" + m + ", MAX)", x.order(m, Integer.MAX_VALUE), -2);
    }

    private static void order() {
        ChannelSqueeze x = Check.told(ROW);
        order(x, 4);
        order(x, 3, 2);
        order(Check.told(PAIR), 2, 0, 1, 2);
        ChannelSqueeze y = Check.told("channels 3;station a at 0 0 reach 5 on 3 worth 1 not 2;"
            + "station b at 8 0 reach 5 on 1 worth 1;station c at 50 0 reach 5 on 3 worth 1");
        row(y, 2, 3, 1, 2, 1);
        order(y, 2, 1, 0, 2);
        y.move(1, 3, true);
        y.ban(0, 1);
        y.ban(0, 2);
        y.move(0, 1, true);
        row(y, 2, 3, 2, 1, 1);
        order(y, 2, 0, 1, 2);
        Check.refuses(x, "order(1, 0)", x.order(1, 0), 6);
    }

    private static void noOrder() {
        ChannelSqueeze x = Check.told("channels 2;station a at 0 0 reach 5 on 1 worth 1 not 1;"
            + "station b at 8 0 reach 5 on 2 worth 1 not 2;station c at 50 0 reach 5 on 1 worth 1 not 1");
        row(x, 2, 3, 2, 1, 2);
        for (int i = 0; i < 4; i++) {
            Check.gives(x, "two that change places have no order, " + i, x.order(2, i), -2);
        }
        x.buy(1, 0);
        order(x, 2, 0, 2);
    }

    private static void orderMindsBrushes() {
        ChannelSqueeze x = Check.told("channels 5;station a at 0 0 reach 9 on 5 worth 1 not 1,2,4,5;"
            + "station b at 5 0 reach 9 on 2 worth 1 not 2,3,4,5");
        row(x, 3, 2, 3, 1);
        order(x, 3, 1, 0);
        x.move(1, 4, true);
        order(x, 3, 1, 0);
        ChannelSqueeze y = Check.told("channels 5;station a at 0 0 reach 9 on 5 worth 1 not 1,2,4,5;"
            + "station b at 15 0 reach 9 on 2 worth 1 not 2,3,4,5");
        order(y, 3, 0, 1);
    }

    private static void steps() {
        ChannelSqueeze x = Check.told(PAIR);
        int[][] want = {{4, 0, 0, 0}, {3, 2, 2, 2}, {2, 4, 2, 3}, {1, -2, -2, -2}};
        String before = Check.state(x);
        for (int[] row : want) {
            for (int what = 0; what < 3; what++) {
                Check.gives(x, "steps(" + row[0] + ", " + what + ")", x.steps(row[0], what), row[what + 1]);
            }
        }
        Check.isTrue("nothing is changed", Check.state(x).equals(before));
        ChannelSqueeze y = Check.told("channels 2;station a at 0 0 reach 5 on 1 worth 1 not 1,2");
        Check.gives(y, "all channels: no step, though it doesn't fit", y.steps(2, 0), 0);
        Check.gives(y, "some step can't be", y.steps(1, 2), -2);
        x.buy(1, 0);
        Check.gives(x, "those off the air stand", x.steps(1, 0), 2);
    }

    private static void refusals() {
        ChannelSqueeze x = Check.told(ROW);
        String before = Check.state(x);
        for (int m : new int[] {0, 5, -1, Integer.MIN_VALUE, Integer.MAX_VALUE}) {
            Check.refuses(x, "squeeze(" + m + ")", x.squeeze(m), 2);
            Check.refuses(x, "squeezeOf(" + m + ", 0)", x.squeezeOf(m, 0), 2);
            Check.refuses(x, "squeezeOf(" + m + ", 3)", x.squeezeOf(m, 3), 1);
            Check.refuses(x, "order(" + m + ", 0)", x.order(m, 0), 2);
            Check.refuses(x, "order(" + m + ", -1)", x.order(m, -1), 1);
            Check.refuses(x, "steps(" + m + ", 0)", x.steps(m, 0), 2);
            Check.refuses(x, "steps(" + m + ", 3)", x.steps(m, 3), 1);
        }
        Check.refuses(x, "squeezeOf(1, -1)", x.squeezeOf(1, -1), 1);
        Check.refuses(x, "order(1, -1)", x.order(1, -1), 1);
        Check.refuses(x, "steps(1, -1)", x.steps(1, -1), 1);
        Check.isTrue("nothing is changed", Check.state(x).equals(before));
    }
}
