/** Promises 13 to 19, a sentence each: what fits, rows, proofs, the cheapest set. */
public final class FitEdgeTest {
    private static final int[] NO_SETS = {-1, 8, 16, 255, 256, Edges.MIN, Edges.MAX};
    private static final int[] NO_CHANNELS = {0, 5, -1, 10, 33, Edges.MIN, Edges.MAX};

    public static void main(String[] args) {
        Edges.run(FitEdgeTest.class);
    }

    private static void row(ChannelSqueeze x, int set, int m, int... channels) {
        for (int s = 0; s < channels.length; s++) {
            if ((set >> s & 1) != 0) {
                Check.gives(x, "rowOf(" + set + ", " + m + ", " + s + ")", x.rowOf(set, m, s), channels[s]);
            }
        }
    }

    // ---- promise 13

    @Says("A set FITS m CHANNELS (1 .. all): there is a ROW: a CHANNEL up to m from its LIST for each, by which no two DISTURB each other.")
    static void p13OneAloneFitsUpToItsList() {
        ChannelSqueeze x = Check.told("channels 10;station a at 0 0 reach 60 on 1 worth 0 not 1,2,3,4,6,7,8,9,10;"
            + "station b at 0 0 reach 60 on 1 worth 0 not 1,2,3,4,5,6,7,8,9");
        for (int m = 1; m <= 10; m++) {
            Check.gives(x, "5 alone in " + m, x.fits(1, m), m >= 5 ? 1 : 0);
            Check.gives(x, "10 alone in " + m, x.fits(2, m), m >= 10 ? 1 : 0);
            Check.gives(x, "5 and 10 in " + m, x.fits(3, m), m >= 10 ? 1 : 0);
        }
    }

    @Says("A set FITS m CHANNELS (1 .. all): there is a ROW: a CHANNEL up to m from its LIST for each, by which no two DISTURB each other.")
    static void p13OneWithoutAListFitsNothing() {
        ChannelSqueeze x = Check.told("channels 10;station a at 0 0 reach 1 on 1 worth 0 not 1,2,3,4,5,6,7,8,9,10;"
            + "station b at 50 0 reach 1 on 1 worth 0;border at 50 0 reach 1 not 10,9,8,7,6,5,4,3,2,1");
        Check.gives(x, "all are banned", x.fits(1, 10), 0);
        Check.gives(x, "all are the border's", x.fits(2, 10), 0);
        Check.gives(x, "the empty set", x.fits(0, 10), 1);
    }

    @Says("A set FITS m CHANNELS (1 .. all): there is a ROW: a CHANNEL up to m from its LIST for each, by which no two DISTURB each other.")
    static void p13ThoseThatClashAndThoseThatBrush() {
        ChannelSqueeze heap = Edges.heap(10, 1, 1, 1, 1, 1, 1);
        Check.gives(heap, "two that brush in 2", heap.fits(3, 2), 0);
        Check.gives(heap, "two that brush in 3", heap.fits(3, 3), 1);
        Check.gives(heap, "five that brush in 8", heap.fits(31, 8), 0);
        Check.gives(heap, "five that brush in 9", heap.fits(31, 9), 1);
        Check.gives(heap, "six that brush in 10", heap.fits(63, 10), 0);
        ChannelSqueeze clash = Edges.pair(5, 10, 0, 5);
        Check.gives(clash, "two that clash in 1", clash.fits(3, 1), 0);
        Check.gives(clash, "two that clash in 2", clash.fits(3, 2), 1);
        ChannelSqueeze apart = Edges.apart(2, 1, 1, 1, 1, 1, 1, 1, 1);
        Check.gives(apart, "eight that don't clash in 1", apart.fits(255, 1), 1);
    }

    @Says("(None FIT any.)")
    static void p13NoneFitAny() {
        ChannelSqueeze x = Check.told(Edges.THREE);
        for (int m = 1; m <= 4; m++) {
            Check.gives(x, "fits(0, " + m + ")", x.fits(0, m), 1);
        }
        ChannelSqueeze y = Check.told("channels 1;station a at 0 0 reach 1 on 1 worth 0 not 1");
        Check.gives(y, "fits(0, 1), asked first of one without a list", y.fits(0, 1), 1);
        Check.gives(y, "fits(1, 1) of one without a list", y.fits(1, 1), 0);
    }

    @Says("Sets of STATIONS, of CHANNELS are bits (STATION 0, CHANNEL 1 counts 1).")
    static void p13TheLastStationCounts128() {
        ChannelSqueeze x = Edges.heap(2, 1, 1, 1, 1, 1, 1, 1, 1);
        Edges.banAllBut(x, 7, 2);
        Check.gives(x, "station 7 in 1", x.fits(128, 1), 0);
        Check.gives(x, "station 7 in 2", x.fits(128, 2), 1);
        Check.gives(x, "station 0 in 1", x.fits(1, 1), 1);
        Check.gives(x, "all eight", x.fits(255, 2), 0);
        Check.refuses(x, "beyond all eight", x.fits(256, 2), 2);
        Check.gives(x, "channel 2 counts 2", x.station(7, 6), 2);
    }

    @Says("1 if a set FITS m, 0.")
    static void p13OnAirOrNot() {
        ChannelSqueeze x = Edges.heap(2, 1, 1);
        x.buy(0, 0);
        Check.gives(x, "sets may have those off the air", x.fits(3, 1), 0);
        Check.gives(x, "one off the air alone", x.fits(1, 1), 1);
    }

    @Says("NONE: 1 (no TEXT); 2.")
    static void p13NoText() {
        Edges.refused(1, "fits(0, 1)", Edges::fresh, x -> x.fits(0, 1));
        Edges.refused(1, "fits(-1, 0)", Edges::fresh, x -> x.fits(-1, 0));
    }

    @Says("2 a number (a set with others than STATIONS, m, a CHANNEL, too)")
    static void p13ASetWithOthers() {
        for (int set : NO_SETS) {
            Edges.refused(2, "fits(" + set + ", 1)", Edges::rich, x -> x.fits(set, 1));
        }
        Edges.asks(1, "fits(7, 4)", Edges::rich, x -> x.fits(7, 4));
    }

    @Says("2 a number (a set with others than STATIONS, m, a CHANNEL, too)")
    static void p13NoSuchM() {
        for (int m : NO_CHANNELS) {
            Edges.refused(2, "fits(1, " + m + ")", Edges::rich, x -> x.fits(1, m));
            Edges.refused(2, "fits(0, " + m + ")", Edges::rich, x -> x.fits(0, m));
        }
    }

    // ---- promise 14

    @Says("ROWS are compared STATION by STATION, the lesser CHANNEL first.")
    static void p14TheFirstRowIsNotTheGreedyOne() {
        ChannelSqueeze x = Edges.heap(5, 1, 1, 1);
        row(x, 7, 5, 1, 3, 5);
        Edges.banAllBut(x, 2, 1);
        row(x, 7, 5, 3, 5, 1);
        ChannelSqueeze y = Edges.pair(5, 10, 0, 5);
        row(y, 3, 5, 1, 2);
        Edges.banAllBut(y, 1, 1);
        row(y, 3, 5, 2, 1);
    }

    @Says("ROWS are compared STATION by STATION, the lesser CHANNEL first.")
    static void p14TheStationOfLeastNumberGoesFirst() {
        ChannelSqueeze x = Edges.pair(5, 10, 0, 5);
        Edges.banAllBut(x, 0, 2, 4);
        Edges.banAllBut(x, 1, 2, 5);
        row(x, 3, 5, 2, 5);
    }

    @Says("The CHANNEL of a STATION by the first ROW of a set up to m.")
    static void p14OfTheSetAlone() {
        ChannelSqueeze x = Edges.heap(5, 1, 1, 1);
        row(x, 6, 3, 0, 1, 3);
        row(x, 5, 3, 1, 0, 3);
        row(x, 4, 1, 0, 0, 1);
        x.buy(0, 0);
        row(x, 7, 5, 1, 3, 5);
    }

    @Says("The CHANNEL of a STATION by the first ROW of a set up to m.")
    static void p14AskedAgainBehindOtherQuestions() {
        ChannelSqueeze x = Edges.heap(5, 1, 1, 1);
        row(x, 7, 5, 1, 3, 5);
        Check.gives(x, "fits(1, 1)", x.fits(1, 1), 1);
        row(x, 7, 5, 1, 3, 5);
        Check.gives(x, "could(4, 2, 2)", x.could(4, 2, 2), 3);
        row(x, 3, 3, 1, 3);
        row(x, 7, 5, 1, 3, 5);
        Check.gives(x, "proof(7, 1)", x.proof(7, 1), 3);
        row(x, 6, 3, 0, 1, 3);
    }

    @Says("The CHANNEL of a STATION by the first ROW of a set up to m.")
    static void p14TheLastChannelAlone() {
        ChannelSqueeze x = Check.told("channels 10;station a at 0 0 reach 1 on 1 worth 0 not 1,2,3,4,5,6,7,8;"
            + "station b at 0 2 reach 1 on 1 worth 0 not 1,2,3,4,5,6,7,8,10");
        row(x, 3, 10, 10, 9);
        row(x, 1, 10, 9);
        Check.refuses(x, "both in 9", x.rowOf(3, 9, 0), 6);
    }

    @Says("NONE: 1; 2 (it isn't in the set, too); 6 (it doesn't FIT).")
    static void p14NoSuchStation() {
        for (int s : new int[] {-1, 3, 8, 32, Edges.MIN, Edges.MAX}) {
            Edges.refused(1, "rowOf(7, 4, " + s + ")", Edges::rich, x -> x.rowOf(7, 4, s));
        }
        Edges.refused(1, "rowOf(1, 1, 0) without a text", Edges::fresh, x -> x.rowOf(1, 1, 0));
    }

    @Says("NONE: 1; 2 (it isn't in the set, too); 6 (it doesn't FIT).")
    static void p14ANumber() {
        for (int set : NO_SETS) {
            Edges.refused(2, "rowOf(" + set + ", 4, 0)", Edges::rich, x -> x.rowOf(set, 4, 0));
        }
        for (int m : NO_CHANNELS) {
            Edges.refused(2, "rowOf(7, " + m + ", 0)", Edges::rich, x -> x.rowOf(7, m, 0));
        }
    }

    @Says("NONE: 1; 2 (it isn't in the set, too); 6 (it doesn't FIT).")
    static void p14OneThatIsNotInTheSet() {
        Edges.refused(2, "rowOf(5, 4, 1)", Edges::rich, x -> x.rowOf(5, 4, 1));
        Edges.refused(2, "rowOf(0, 4, 0)", Edges::rich, x -> x.rowOf(0, 4, 0));
        Edges.refused(2, "rowOf(3, 1, 2), which doesn't fit", Edges::rich, x -> x.rowOf(3, 1, 2));
    }

    @Says("NONE: 1; 2 (it isn't in the set, too); 6 (it doesn't FIT).")
    static void p14ASetThatDoesNotFit() {
        Edges.refused(6, "rowOf(3, 1, 0)", Edges::rich, x -> x.rowOf(3, 1, 0));
        Edges.refused(6, "rowOf(7, 1, 2)", Edges::rich, x -> x.rowOf(7, 1, 2));
    }

    // ---- promise 15

    @Says("How many ROWS a set has up to m (999 at most are counted).")
    static void p15The999thIsCountedAndNoMore() {
        ChannelSqueeze x = Check.told("channels 10;station a at 0 0 reach 5 on 1 worth 0 not 7,8,9,10;"
            + "station b at 10 0 reach 5 on 1 worth 0 not 1,9,10;station c at 50 0 reach 1 on 1 worth 0 not 5;"
            + "station d at 60 0 reach 1 on 1 worth 0 not 1,2,3,4,5,6,7;station e at 70 0 reach 1 on 1 worth 0 not 1,2,3,4,5,6,7,8,9");
        Check.gives(x, "37", x.rows(3, 10), 37);
        Check.gives(x, "37 by 9", x.rows(7, 10), 333);
        Check.gives(x, "37 by 9 by 3", x.rows(15, 10), 999);
        Check.gives(x, "that by 1", x.rows(31, 10), 999);
        x.ban(3, 7);
        Check.gives(x, "37 by 9 by 4", x.rows(15, 10), 999);
        x.ban(3, 7);
        x.ban(3, 8);
        Check.gives(x, "37 by 9 by 2", x.rows(15, 10), 666);
        ChannelSqueeze y = Edges.apart(10, 1, 1, 1, 1, 1, 1, 1, 1);
        Check.gives(y, "100", y.rows(3, 10), 100);
        Check.gives(y, "1000", y.rows(7, 10), 999);
        Check.gives(y, "a hundred millions", y.rows(255, 10), 999);
        y.ban(0, 1);
        Check.gives(y, "900", y.rows(7, 10), 900);
    }

    @Says("How many ROWS a set has up to m (999 at most are counted).")
    static void p15AskedAgainBehindOtherQuestions() {
        ChannelSqueeze x = Edges.heap(5, 1, 1, 1);
        Check.gives(x, "three up to 5", x.rows(7, 5), 6);
        Check.gives(x, "fits(1, 1)", x.fits(1, 1), 1);
        Check.gives(x, "three up to 5 again", x.rows(7, 5), 6);
        Check.gives(x, "rowOf(7, 5, 2)", x.rowOf(7, 5, 2), 5);
        Check.gives(x, "three up to 5 once more", x.rows(7, 5), 6);
        Check.gives(x, "two up to 4", x.rows(6, 4), 6);
    }

    @Says("How many ROWS a set has up to m (999 at most are counted).")
    static void p15NoneAndOne() {
        ChannelSqueeze x = Edges.heap(3, 1, 1);
        Check.gives(x, "the empty set has one", x.rows(0, 1), 1);
        Check.gives(x, "the empty set has one up to all", x.rows(0, 3), 1);
        Check.gives(x, "two that brush up to 2", x.rows(3, 2), 0);
        Check.gives(x, "two that brush up to 3", x.rows(3, 3), 2);
        Check.gives(x, "one alone up to 1", x.rows(1, 1), 1);
        Check.gives(x, "one alone up to 3", x.rows(2, 3), 3);
    }

    @Says("NONE: 1 (no TEXT); 2.")
    static void p15Refused() {
        Edges.refused(1, "rows(0, 1) without a text", Edges::fresh, x -> x.rows(0, 1));
        Edges.refused(1, "rows(-1, 0) without a text", Edges::fresh, x -> x.rows(-1, 0));
        for (int set : NO_SETS) {
            Edges.refused(2, "rows(" + set + ", 1)", Edges::rich, x -> x.rows(set, 1));
        }
        for (int m : NO_CHANNELS) {
            Edges.refused(2, "rows(1, " + m + ")", Edges::rich, x -> x.rows(1, m));
        }
    }

    // ---- promise 16

    @Says("The fewest CHANNELS m that a set FITS (0 for none); -2: it doesn't FIT all.")
    static void p16FromOneToAll() {
        ChannelSqueeze x = Edges.heap(9, 1, 1, 1, 1, 1, 1);
        int[] want = {1, 3, 5, 7, 9, -2};
        for (int count = 1; count <= 6; count++) {
            Check.gives(x, "fewest of " + count, x.fewest((1 << count) - 1), want[count - 1]);
        }
    }

    @Says("The fewest CHANNELS m that a set FITS (0 for none); -2: it doesn't FIT all.")
    static void p16NoughtForNone() {
        Edges.asks(0, "fewest(0)", Edges::rich, x -> x.fewest(0));
    }

    @Says("The fewest CHANNELS m that a set FITS (0 for none); -2: it doesn't FIT all.")
    static void p16TheListsCount() {
        ChannelSqueeze x = Check.told("channels 10;station a at 0 0 reach 1 on 1 worth 0 not 1,2,3,4,5,6,7,8,9;"
            + "station b at 9 0 reach 1 on 1 worth 0 not 1,2,3,4,5,6,7,8,9,10;station c at 0 9 reach 1 on 1 worth 0 not 1");
        Check.gives(x, "channel 10 alone", x.fewest(1), 10);
        Check.gives(x, "no channel", x.fewest(2), -2);
        Check.gives(x, "all but channel 1", x.fewest(4), 2);
        Check.gives(x, "all three", x.fewest(7), -2);
    }

    @Says("NONE: 1 (no TEXT); 2.")
    static void p16Refused() {
        Edges.refused(1, "fewest(0) without a text", Edges::fresh, x -> x.fewest(0));
        Edges.refused(1, "fewest(-1) without a text", Edges::fresh, x -> x.fewest(-1));
        for (int set : NO_SETS) {
            Edges.refused(2, "fewest(" + set + ")", Edges::rich, x -> x.fewest(set));
        }
        Edges.asks(2, "fewest(7)", Edges::rich, x -> x.fewest(7));
    }

    // ---- promise 17

    @Says("A PROOF that a set doesn't FIT m: a set of some of these that doesn't, of fewest, of like ones the least number.")
    static void p17FewestGoAheadOfTheLeastNumber() {
        ChannelSqueeze x = Edges.heap(3, 1, 1, 1, 1);
        Edges.banAllBut(x, 3);
        Check.gives(x, "one without a list", x.proof(15, 3), 8);
        Edges.banAllBut(x, 0);
        Check.gives(x, "the first without a list", x.proof(15, 3), 1);
        x.ban(0, 1);
        Check.gives(x, "two of three in 1", x.proof(7, 1), 3);
    }

    @Says("A PROOF that a set doesn't FIT m: a set of some of these that doesn't, of fewest, of like ones the least number.")
    static void p17OfLikeOnesTheLeastNumber() {
        ChannelSqueeze x = Edges.heap(4, 1, 1, 1, 1);
        Check.gives(x, "of two in 2: a and b", x.proof(15, 2), 3);
        Check.gives(x, "of two in 2, without a: b and c", x.proof(14, 2), 6);
        Check.gives(x, "of two in 2, without b: a and c", x.proof(13, 2), 5);
        Check.gives(x, "of three in 4", x.proof(15, 4), 7);
        Check.gives(x, "of three in 4, without a", x.proof(14, 4), 14);
    }

    @Says("A PROOF that a set doesn't FIT m: a set of some of these that doesn't, of fewest, of like ones the least number.")
    static void p17AllOfItMayBeNeeded() {
        ChannelSqueeze x = Edges.heap(6, 1, 1, 1, 1);
        Check.gives(x, "four in 6", x.proof(15, 6), 15);
        Check.gives(x, "two in 1", x.proof(10, 1), 10);
        Edges.banAllBut(x, 2);
        Check.gives(x, "one alone", x.proof(4, 6), 4);
        ChannelSqueeze eight = Edges.apart(1, 1, 1, 1, 1, 1, 1, 1, 1);
        eight.ban(7, 1);
        Check.gives(eight, "station 7 of eight", eight.proof(255, 1), 128);
    }

    @Says("A PROOF; -2: the set FITS.")
    static void p17TheSetFits() {
        Edges.asks(-2, "proof(7, 4)", Edges::rich, x -> x.proof(7, 4));
        Edges.asks(-2, "proof(0, 1)", Edges::rich, x -> x.proof(0, 1));
        Edges.asks(-2, "proof(1, 1)", Edges::rich, x -> x.proof(1, 1));
    }

    @Says("NONE: 1 (no TEXT); 2.")
    static void p17Refused() {
        Edges.refused(1, "proof(0, 1) without a text", Edges::fresh, x -> x.proof(0, 1));
        Edges.refused(1, "proof(-1, 0) without a text", Edges::fresh, x -> x.proof(-1, 0));
        for (int set : NO_SETS) {
            Edges.refused(2, "proof(" + set + ", 1)", Edges::rich, x -> x.proof(set, 1));
        }
        for (int m : NO_CHANNELS) {
            Edges.refused(2, "proof(7, " + m + ")", Edges::rich, x -> x.proof(7, m));
        }
    }

    // ---- promise 18

    private static void cheapest(ChannelSqueeze x, int m, int set, int worth) {
        Check.gives(x, "cheapest(" + m + ", 0)", x.cheapest(m, 0), set);
        Check.gives(x, "cheapest(" + m + ", 1)", x.cheapest(m, 1), worth);
    }

    @Says("CHEAPEST by m: a set of those ON AIR, without which all others FIT m, of least WORTH together, of like ones the least number.")
    static void p18OfLeastWorth() {
        ChannelSqueeze x = Check.told("channels 2;station a at 0 0 reach 5 on 1 worth 30;station b at 10 0 reach 5 on 1 worth 40;"
            + "station c at 20 0 reach 5 on 1 worth 10");
        cheapest(x, 1, 2, 40);
        x.value(1, 39);
        cheapest(x, 1, 2, 39);
        x.value(1, 41);
        cheapest(x, 1, 5, 40);
        cheapest(x, 2, 0, 0);
    }

    @Says("CHEAPEST by m: a set of those ON AIR, without which all others FIT m, of least WORTH together, of like ones the least number.")
    static void p18OfLikeOnesTheLeastNumber() {
        ChannelSqueeze x = Edges.heap(3, 5, 5, 5);
        cheapest(x, 1, 3, 10);
        cheapest(x, 3, 1, 5);
        x.value(2, 10);
        x.value(0, 10);
        cheapest(x, 3, 2, 5);
        ChannelSqueeze nought = Edges.heap(3, 0, 0, 0);
        cheapest(nought, 1, 3, 0);
        cheapest(nought, 3, 1, 0);
    }

    @Says("CHEAPEST: the set (what 0), its WORTH (1).")
    static void p18NoneAndAll() {
        ChannelSqueeze x = Edges.apart(2, 0, 999, 999);
        cheapest(x, 1, 0, 0);
        for (int s = 0; s < 3; s++) {
            x.ban(s, 1);
        }
        cheapest(x, 1, 7, 1998);
        cheapest(x, 2, 0, 0);
        ChannelSqueeze eight = Edges.apart(1, 999, 999, 999, 999, 999, 999, 999, 999);
        for (int s = 0; s < 8; s++) {
            eight.ban(s, 1);
        }
        cheapest(eight, 1, 255, 7992);
    }

    @Says("CHEAPEST by m: a set of those ON AIR, without which all others FIT m, of least WORTH together, of like ones the least number.")
    static void p18ThoseOffTheAirDoNotCount() {
        ChannelSqueeze x = Edges.heap(1, 5, 6, 7);
        x.buy(0, 0);
        cheapest(x, 1, 2, 6);
        x.buy(2, 0);
        cheapest(x, 1, 0, 0);
        x.buy(1, 0);
        cheapest(x, 1, 0, 0);
    }

    @Says("NONE: 1 (no TEXT, what); 2.")
    static void p18Refused() {
        Edges.refused(1, "cheapest(1, 0) without a text", Edges::fresh, x -> x.cheapest(1, 0));
        Edges.refused(1, "cheapest(0, 0) without a text", Edges::fresh, x -> x.cheapest(0, 0));
        for (int what : new int[] {-1, 2, Edges.MIN, Edges.MAX}) {
            Edges.refused(1, "cheapest(1, " + what + ")", Edges::rich, x -> x.cheapest(1, what));
            Edges.refused(1, "cheapest(0, " + what + ")", Edges::rich, x -> x.cheapest(0, what));
        }
        for (int m : NO_CHANNELS) {
            Edges.refused(2, "cheapest(" + m + ", 0)", Edges::rich, x -> x.cheapest(m, 0));
            Edges.refused(2, "cheapest(" + m + ", 1)", Edges::rich, x -> x.cheapest(m, 1));
        }
        Edges.asks(2, "cheapest(1, 0)", Edges::rich, x -> x.cheapest(1, 0));
        Edges.asks(0, "cheapest(4, 1)", Edges::rich, x -> x.cheapest(4, 1));
    }

    // ---- promise 19

    @Says("The CHANNELS up to m to which a STATION of a set can come by some ROW of it, as bits.")
    static void p19FromTheFirstToTheLastChannel() {
        ChannelSqueeze x = Edges.heap(10, 1, 1, 1, 1, 1);
        Check.gives(x, "one alone", x.could(1, 10, 0), 1023);
        Check.gives(x, "one alone up to 1", x.could(1, 1, 0), 1);
        Check.gives(x, "five up to 9", x.could(31, 9, 4), 1 + 4 + 16 + 64 + 256);
        Check.gives(x, "two up to 3", x.could(3, 3, 0), 5);
        Check.gives(x, "five up to 10", x.could(31, 10, 2), 1023);
        Edges.banAllBut(x, 1, 10);
        Check.gives(x, "channel 10 alone", x.could(2, 10, 1), 512);
        Check.gives(x, "the other beside channel 10", x.could(3, 10, 0), 255);
    }

    @Says("The CHANNELS up to m to which a STATION of a set can come by some ROW of it, as bits.")
    static void p19NoneIfTheSetDoesNotFit() {
        ChannelSqueeze x = Edges.heap(3, 1, 1, 1);
        Check.gives(x, "three up to 3", x.could(7, 3, 0), 0);
        Check.gives(x, "two up to 2", x.could(3, 2, 1), 0);
        Check.gives(x, "two of them up to 3", x.could(6, 3, 1), 5);
    }

    @Says("NONE: 1; 2 (it isn't in the set, too).")
    static void p19Refused() {
        Edges.refused(1, "could(1, 1, 0) without a text", Edges::fresh, x -> x.could(1, 1, 0));
        for (int s : new int[] {-1, 3, 8, 32, Edges.MIN, Edges.MAX}) {
            Edges.refused(1, "could(7, 4, " + s + ")", Edges::rich, x -> x.could(7, 4, s));
            Edges.refused(1, "could(-1, 0, " + s + ")", Edges::rich, x -> x.could(-1, 0, s));
        }
        for (int set : NO_SETS) {
            Edges.refused(2, "could(" + set + ", 4, 0)", Edges::rich, x -> x.could(set, 4, 0));
        }
        for (int m : NO_CHANNELS) {
            Edges.refused(2, "could(7, " + m + ", 0)", Edges::rich, x -> x.could(7, m, 0));
        }
    }

    @Says("NONE: 1; 2 (it isn't in the set, too).")
    static void p19OneThatIsNotInTheSet() {
        Edges.refused(2, "could(5, 4, 1)", Edges::rich, x -> x.could(5, 4, 1));
        Edges.refused(2, "could(0, 4, 0)", Edges::rich, x -> x.could(0, 4, 0));
    }
}
