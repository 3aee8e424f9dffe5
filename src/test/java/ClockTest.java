/** Promises 20 and 21: the price that falls. */
public final class ClockTest {
    public static void main(String[] args) {
        threeInARow();
        frozenInTheSameRoundOrTheNext();
        frozenWithoutAList();
        soldAtNought();
        roundsOfOneAlone();
        payAlone();
        nobodyOnAir();
        thoseOffTheAir();
        priceOfWorthIsNotBelow();
        refusals();
        Check.end();
    }

    private static void clock(ChannelSqueeze x, int[] by, int[] want, int... pays) {
        String of = " by " + by[0] + ", " + by[1] + ", " + by[2];
        for (int what = 0; what < 5; what++) {
            Check.gives(x, "clock " + what + of, x.clock(by[0], by[1], by[2], what), want[what]);
        }
        for (int s = 0; s < pays.length; s++) {
            Check.gives(x, "pay of " + s + of, x.pay(by[0], by[1], by[2], s), pays[s]);
        }
    }

    private static ChannelSqueeze atOnePlace(int... worths) {
        StringBuilder text = new StringBuilder("channels 4");
        for (int s = 0; s < worths.length; s++) {
            text.append(";station ").append((char) ('a' + s)).append(" at 1 1 reach 1 on 1 worth ").append(worths[s]);
        }
        return Check.told(text.toString());
    }

    private static void threeInARow() {
        ChannelSqueeze x = Check.told("channels 4;station a at 0 0 reach 10 on 1 worth 30;"
            + "station b at 15 0 reach 10 on 2 worth 20;station c at 30 0 reach 10 on 4 worth 10");
        clock(x, new int[] {1, 50, 10}, new int[] {6, 5, 2, 0, 20}, -2, 20, -2);
        clock(x, new int[] {2, 50, 10}, new int[] {6, 7, 0, 0, 0}, -2, -2, -2);
        clock(x, new int[] {1, 5, 1}, new int[] {1, 5, 2, 0, 5}, -2, 5, -2);
        x.value(1, 31);
        clock(x, new int[] {1, 50, 10}, new int[] {4, 2, 5, 0, 50}, 20, -2, 30);
    }

    private static void frozenInTheSameRoundOrTheNext() {
        ChannelSqueeze behind = atOnePlace(50, 10);
        clock(behind, new int[] {1, 40, 15}, new int[] {1, 1, 2, 0, 40}, -2, 40);
        ChannelSqueeze ahead = atOnePlace(10, 50);
        clock(ahead, new int[] {1, 40, 15}, new int[] {2, 2, 1, 0, 25}, 25, -2);
        ChannelSqueeze last = atOnePlace(0, 3);
        clock(last, new int[] {1, 4, 3}, new int[] {3, 2, 1, 0, 0}, 0, -2);
        clock(last, new int[] {1, 4, 4}, new int[] {2, 2, 0, 1, 0}, 0, -2);
    }

    private static void frozenWithoutAList() {
        ChannelSqueeze x = Check.told("channels 2;station a at 0 0 reach 1 on 1 worth 9 not 1;station b at 9 0 reach 1 on 1 worth 7");
        clock(x, new int[] {1, 8, 1}, new int[] {3, 2, 1, 0, 8}, 8, -2);
        clock(x, new int[] {1, 0, 1}, new int[] {1, 2, 1, 0, 0}, 0, -2);
        clock(x, new int[] {2, 8, 1}, new int[] {3, 3, 0, 0, 0}, -2, -2);
    }

    private static void soldAtNought() {
        ChannelSqueeze x = Check.told("channels 2;station a at 0 0 reach 1 on 1 worth 0;station b at 9 0 reach 1 on 1 worth 1;"
            + "station c at 20 0 reach 1 on 1 worth 0");
        clock(x, new int[] {1, 3, 2}, new int[] {3, 2, 0, 5, 0}, 0, -2, 0);
        clock(x, new int[] {1, 0, 999}, new int[] {1, 2, 0, 5, 0}, 0, -2, 0);
        clock(x, new int[] {1, 999, 999}, new int[] {2, 2, 0, 5, 0}, 0, -2, 0);
    }

    private static void roundsOfOneAlone() {
        int[][] rows = {{500, 999, 1, 501}, {0, 999, 1, 1000}, {1, 999, 1, 1000}, {999, 999, 1, 2}, {999, 998, 1, 1}, {4, 10, 3, 4},
            {1, 10, 3, 5}, {0, 9, 3, 4}, {3, 9, 3, 4}, {4, 9, 3, 3}, {0, 10, 3, 5}, {2, 10, 4, 4}, {3, 10, 4, 3}, {0, 0, 5, 1}};
        for (int[] row : rows) {
            ChannelSqueeze x = atOnePlace(row[0]);
            Check.gives(x, "rounds of worth " + row[0] + " at " + row[1] + " by " + row[2], x.clock(1, row[1], row[2], 0), row[3]);
            Check.gives(x, "who stays", x.clock(1, row[1], row[2], 1), row[0] == 0 ? 0 : 1);
            Check.gives(x, "who is sold", x.clock(1, row[1], row[2], 3), row[0] == 0 ? 1 : 0);
        }
    }

    private static void payAlone() {
        ChannelSqueeze x = atOnePlace(10, 50, 0);
        Check.gives(x, "pay ahead of any clock", x.pay(1, 40, 15, 0), 25);
        Check.gives(x, "pay of another clock", x.pay(3, 40, 15, 0), -2);
        Check.gives(x, "pay of the first clock again", x.pay(1, 40, 15, 2), 40);
        ChannelSqueeze y = atOnePlace(5);
        Check.gives(y, "sold", y.pay(1, 5, 5, 0), -2);
        y.value(0, 0);
        Check.gives(y, "sold at nought", y.pay(1, 5, 5, 0), 0);
        y.ban(0, 1);
        Check.gives(y, "frozen at once", y.pay(1, 5, 5, 0), 5);
        y.undo();
        Check.gives(y, "sold at nought, though it was frozen", y.pay(1, 5, 5, 0), 0);
    }

    private static void nobodyOnAir() {
        ChannelSqueeze x = atOnePlace(5);
        x.buy(0, 0);
        clock(x, new int[] {1, 999, 1}, new int[] {1, 0, 0, 0, 0}, -2);
    }

    private static void thoseOffTheAir() {
        ChannelSqueeze x = atOnePlace(9, 8, 7);
        x.buy(0, 0);
        clock(x, new int[] {1, 10, 1}, new int[] {4, 2, 4, 0, 7}, -2, -2, 7);
    }

    private static void priceOfWorthIsNotBelow() {
        ChannelSqueeze x = atOnePlace(5, 5);
        clock(x, new int[] {1, 5, 5}, new int[] {2, 1, 2, 0, 0}, -2, 0);
        clock(x, new int[] {1, 4, 5}, new int[] {1, 1, 2, 0, 4}, -2, 4);
    }

    private static void refusals() {
        ChannelSqueeze x = atOnePlace(5, 5);
        String before = Check.state(x);
        int[][] bad = {{0, 1, 1}, {5, 1, 1}, {-1, 1, 1}, {1, -1, 1}, {1, 1000, 1}, {1, 1, 0}, {1, 1, -1}, {1, 1, 1000},
            {1, 1, Integer.MIN_VALUE}, {1, Integer.MAX_VALUE, 1}};
        for (int[] b : bad) {
            Check.refuses(x, "clock", x.clock(b[0], b[1], b[2], 0), 2);
            Check.refuses(x, "pay", x.pay(b[0], b[1], b[2], 0), 2);
            Check.refuses(x, "clock of no such what", x.clock(b[0], b[1], b[2], 5), 1);
            Check.refuses(x, "pay of no such station", x.pay(b[0], b[1], b[2], 2), 1);
        }
        Check.refuses(x, "clock of what -1", x.clock(1, 1, 1, -1), 1);
        Check.refuses(x, "clock of what 5", x.clock(1, 1, 1, 5), 1);
        Check.refuses(x, "pay of -1", x.pay(1, 1, 1, -1), 1);
        x.clock(1, 1, 1, 0);
        x.pay(1, 1, 1, 0);
        Check.isTrue("nothing is changed", Check.state(x).equals(before));
    }
}
