/** Promises 13 to 19: what fits, rows, proofs, the cheapest set. */
public final class FitTest {
    /** a clashes with b, b with c; nobody brushes; the border takes 3 from a. */
    private static final String ROW = "channels 4;station a at 0 0 reach 10 on 1 worth 30;"
        + "station b at 15 0 reach 10 on 2 worth 20;station c at 30 0 reach 10 on 4 worth 10;"
        + "border at 0 5 reach 5 not 3";
    /** All four at one place: each pair brushes, so two channels must lie apart. */
    private static final String HEAP = "channels 5;station a at 9 9 reach 5 on 1 worth 5;"
        + "station b at 9 9 reach 5 on 1 worth 5;station c at 9 9 reach 5 on 1 worth 10;"
        + "station d at 9 9 reach 5 on 1 worth 0 not 1,2,3,4,5";

    public static void main(String[] args) {
        fits();
        rowOf();
        rows();
        fewest();
        proof();
        cheapest();
        could();
        refusals();
        bansCountAtOnce();
        Check.end();
    }

    private static void fits() {
        ChannelSqueeze x = Check.told(ROW);
        Check.gives(x, "fits(7, 1)", x.fits(7, 1), 0);
        Check.gives(x, "fits(7, 2)", x.fits(7, 2), 1);
        Check.gives(x, "fits(5, 1)", x.fits(5, 1), 1);
        Check.gives(x, "fits(3, 1)", x.fits(3, 1), 0);
        Check.gives(x, "fits(0, 1)", x.fits(0, 1), 1);
        x.buy(0, 0);
        Check.gives(x, "sets may have those off the air", x.fits(3, 1), 0);
        ChannelSqueeze y = Check.told(HEAP);
        Check.gives(y, "two that brush don't fit 2", y.fits(3, 2), 0);
        Check.gives(y, "two that brush fit 3", y.fits(3, 3), 1);
        Check.gives(y, "three that brush don't fit 4", y.fits(7, 4), 0);
        Check.gives(y, "three that brush fit 5", y.fits(7, 5), 1);
        Check.gives(y, "one without a list fits nothing", y.fits(8, 5), 0);
    }

    private static void rowOf() {
        ChannelSqueeze x = Check.told(ROW);
        int[] two = {1, 2, 1};
        for (int s = 0; s < 3; s++) {
            Check.gives(x, "rowOf(7, 2, " + s + ")", x.rowOf(7, 2, s), two[s]);
            Check.gives(x, "rowOf(7, 4, " + s + ")", x.rowOf(7, 4, s), two[s]);
        }
        x.ban(0, 1);
        int[] then = {2, 1, 2};
        for (int s = 0; s < 3; s++) {
            Check.gives(x, "rowOf(7, 4, " + s + ") then", x.rowOf(7, 4, s), then[s]);
        }
        Check.gives(x, "rowOf(4, 1, 2)", x.rowOf(4, 1, 2), 1);
        ChannelSqueeze y = Check.told(HEAP);
        int[] heap = {1, 3, 5};
        for (int s = 0; s < 3; s++) {
            Check.gives(y, "rowOf(7, 5, " + s + ")", y.rowOf(7, 5, s), heap[s]);
        }
        y.ban(2, 5);
        y.ban(2, 3);
        int[] other = {3, 5, 1};
        for (int s = 0; s < 3; s++) {
            Check.gives(y, "the first row isn't the greedy one: " + s, y.rowOf(7, 5, s), other[s]);
        }
        Check.refuses(y, "rowOf(7, 4, 0)", y.rowOf(7, 4, 0), 6);
        ChannelSqueeze ten = Check.told("channels 10;station a at 0 0 reach 1 on 1 worth 1 not 1,2,3,4,5,6,7,8;"
            + "station b at 0 2 reach 1 on 1 worth 1 not 1,2,3,4,5,6,7,8,10");
        Check.gives(ten, "the last channel alone is left", ten.rowOf(3, 10, 0), 10);
        Check.gives(ten, "could", ten.could(3, 10, 0), 512);
        Check.gives(ten, "fits", ten.fits(3, 10), 1);
        Check.gives(ten, "rows", ten.rows(3, 10), 1);
        Check.gives(ten, "fewest", ten.fewest(3), 10);
        Check.refuses(y, "rowOf(8, 5, 3)", y.rowOf(8, 5, 3), 6);
    }

    private static void rows() {
        ChannelSqueeze x = Check.told(ROW);
        Check.gives(x, "rows(7, 1)", x.rows(7, 1), 0);
        Check.gives(x, "rows(7, 2)", x.rows(7, 2), 2);
        Check.gives(x, "rows(7, 3)", x.rows(7, 3), 2 * 2 * 2);
        Check.gives(x, "rows(7, 4)", x.rows(7, 4), 3 * 3 * 3);
        Check.gives(x, "rows(5, 4)", x.rows(5, 4), 12);
        Check.gives(x, "rows(1, 4)", x.rows(1, 4), 3);
        Check.gives(x, "rows(0, 4)", x.rows(0, 4), 1);
        ChannelSqueeze y = Check.told(HEAP);
        Check.gives(y, "rows(7, 5)", y.rows(7, 5), 6);
        Check.gives(y, "rows(3, 4)", y.rows(3, 4), 6);
        Check.gives(y, "rows(15, 5)", y.rows(15, 5), 0);
        ChannelSqueeze z = Check.told("channels 10;station a at 0 0 reach 1 on 1 worth 1;station b at 10 0 reach 1 on 1 worth 1;"
            + "station c at 20 0 reach 1 on 1 worth 1;station d at 30 0 reach 1 on 1 worth 1");
        Check.gives(z, "rows are counted up to 999", z.rows(7, 10), 999);
        Check.gives(z, "rows are counted up to 999", z.rows(15, 10), 999);
        Check.gives(z, "rows(7, 9)", z.rows(7, 9), 729);
        z.ban(0, 1);
        Check.gives(z, "rows(7, 10) behind a ban", z.rows(7, 10), 900);
        z.ban(3, 1);
        Check.gives(z, "rows(15, 6)", z.rows(15, 6), 5 * 6 * 6 * 5);
        Check.gives(z, "rows(15, 7)", z.rows(15, 7), 999);
    }

    private static void fewest() {
        ChannelSqueeze x = Check.told(ROW);
        Check.gives(x, "fewest(0)", x.fewest(0), 0);
        Check.gives(x, "fewest(5)", x.fewest(5), 1);
        Check.gives(x, "fewest(7)", x.fewest(7), 2);
        ChannelSqueeze y = Check.told(HEAP);
        Check.gives(y, "fewest(3)", y.fewest(3), 3);
        Check.gives(y, "fewest(7)", y.fewest(7), 5);
        Check.gives(y, "fewest(8)", y.fewest(8), -2);
        Check.gives(y, "fewest(15)", y.fewest(15), -2);
        y.ban(3, 4);
        Check.gives(y, "a list of 4 alone", y.fewest(8), 4);
    }

    private static void proof() {
        ChannelSqueeze x = Check.told(ROW);
        Check.gives(x, "proof(7, 1)", x.proof(7, 1), 3);
        Check.gives(x, "proof(6, 1)", x.proof(6, 1), 6);
        Check.gives(x, "proof(7, 2)", x.proof(7, 2), -2);
        Check.gives(x, "proof(0, 1)", x.proof(0, 1), -2);
        ChannelSqueeze y = Check.told(HEAP);
        Check.gives(y, "fewest stations go ahead of the least number", y.proof(15, 2), 8);
        Check.gives(y, "proof(7, 2)", y.proof(7, 2), 3);
        Check.gives(y, "proof(6, 2)", y.proof(6, 2), 6);
        Check.gives(y, "proof(7, 4)", y.proof(7, 4), 7);
        Check.gives(y, "proof(7, 5)", y.proof(7, 5), -2);
    }

    private static void cheapest() {
        ChannelSqueeze x = Check.told(ROW);
        Check.gives(x, "cheapest(1, 0)", x.cheapest(1, 0), 2);
        Check.gives(x, "cheapest(1, 1)", x.cheapest(1, 1), 20);
        Check.gives(x, "cheapest(2, 0)", x.cheapest(2, 0), 0);
        Check.gives(x, "cheapest(2, 1)", x.cheapest(2, 1), 0);
        x.value(1, 40);
        Check.gives(x, "of like worth the least number", x.cheapest(1, 0), 2);
        x.value(1, 41);
        Check.gives(x, "two are cheaper than one", x.cheapest(1, 0), 5);
        Check.gives(x, "their worth", x.cheapest(1, 1), 40);
        x.buy(0, 0);
        Check.gives(x, "those off the air don't count", x.cheapest(1, 0), 4);
        Check.gives(x, "their worth", x.cheapest(1, 1), 10);
        x.buy(1, 0);
        x.buy(2, 0);
        Check.gives(x, "none on air", x.cheapest(1, 0), 0);
        ChannelSqueeze y = Check.told(HEAP);
        Check.gives(y, "cheapest(4, 0)", y.cheapest(4, 0), 9);
        Check.gives(y, "cheapest(2, 0)", y.cheapest(2, 0), 11);
        Check.gives(y, "cheapest(2, 1)", y.cheapest(2, 1), 10);
        y.value(2, 0);
        Check.gives(y, "one of no worth isn't bought for nothing", y.cheapest(5, 0), 8);
    }

    private static void could() {
        ChannelSqueeze x = Check.told(ROW);
        Check.gives(x, "could(7, 2, 1)", x.could(7, 2, 1), 3);
        Check.gives(x, "could(7, 4, 0)", x.could(7, 4, 0), 11);
        Check.gives(x, "could(7, 1, 1)", x.could(7, 1, 1), 0);
        Check.gives(x, "could(1, 1, 0)", x.could(1, 1, 0), 1);
        ChannelSqueeze y = Check.told(HEAP);
        Check.gives(y, "could(3, 3, 0)", y.could(3, 3, 0), 5);
        Check.gives(y, "could(7, 5, 1)", y.could(7, 5, 1), 21);
        Check.gives(y, "could(15, 5, 1)", y.could(15, 5, 1), 0);
    }

    private static void refusals() {
        ChannelSqueeze x = Check.told(ROW);
        int[][] bad = {{-1, 1}, {8, 1}, {Integer.MIN_VALUE, 1}, {Integer.MAX_VALUE, 1}, {1, 0}, {1, 5}, {1, -1}, {0, 0}};
        String before = Check.state(x);
        for (int[] b : bad) {
            String call = "(" + b[0] + ", " + b[1] + ")";
            Check.refuses(x, "fits" + call, x.fits(b[0], b[1]), 2);
            Check.refuses(x, "rows" + call, x.rows(b[0], b[1]), 2);
            Check.refuses(x, "proof" + call, x.proof(b[0], b[1]), 2);
            Check.refuses(x, "rowOf" + call, x.rowOf(b[0], b[1], 0), 2);
            Check.refuses(x, "could" + call, x.could(b[0], b[1], 0), 2);
            Check.refuses(x, "rowOf of none such" + call, x.rowOf(b[0], b[1], 3), 1);
            Check.refuses(x, "could of none such" + call, x.could(b[0], b[1], -1), 1);
        }
        Check.refuses(x, "fewest(-1)", x.fewest(-1), 2);
        Check.refuses(x, "fewest(8)", x.fewest(8), 2);
        Check.refuses(x, "rowOf of one that isn't in the set", x.rowOf(5, 1, 1), 2);
        Check.refuses(x, "that goes ahead of 6", x.rowOf(3, 1, 2), 2);
        Check.refuses(x, "could of one that isn't in the set", x.could(5, 1, 1), 2);
        Check.refuses(x, "cheapest(0, 0)", x.cheapest(0, 0), 2);
        Check.refuses(x, "cheapest(5, 1)", x.cheapest(5, 1), 2);
        Check.refuses(x, "cheapest(1, 2)", x.cheapest(1, 2), 1);
        Check.refuses(x, "cheapest(5, -1)", x.cheapest(5, -1), 1);
        Check.isTrue("nothing is changed", Check.state(x).equals(before));
    }

    private static void bansCountAtOnce() {
        ChannelSqueeze x = Check.told(ROW);
        Check.gives(x, "fits(7, 2)", x.fits(7, 2), 1);
        x.keep(0);
        x.ban(1, 1);
        x.ban(1, 2);
        Check.gives(x, "fits(7, 2) behind bans", x.fits(7, 2), 0);
        Check.gives(x, "rowOf behind bans", x.rowOf(7, 3, 1), 3);
        x.undo();
        Check.gives(x, "fits(7, 2) behind undo", x.fits(7, 2), 1);
        Check.gives(x, "rowOf behind undo", x.rowOf(7, 2, 0), 1);
        x.ban(1, 2);
        Check.gives(x, "fits(7, 2) again", x.fits(7, 2), 0);
        x.back(0);
        Check.gives(x, "fits(7, 2) back", x.fits(7, 2), 1);
        Check.tell(x, HEAP);
        Check.gives(x, "fits(3, 2) of another text", x.fits(3, 2), 0);
        Check.tell(x, ROW);
        Check.gives(x, "fits(7, 2) of the text again", x.fits(7, 2), 1);
    }
}
