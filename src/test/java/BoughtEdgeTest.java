/** Promises 26 to 29, a sentence each: what one is due, who is heard, islands, lower channels. */
public final class BoughtEdgeTest {
    private static final int[] NO_STATIONS = {-1, 3, 8, Edges.MIN, Edges.MAX};

    public static void main(String[] args) {
        Edges.run(BoughtEdgeTest.class);
    }

    // ---- promise 26

    @Says("What a STATION of CHEAPEST is due: the least WORTH together, were a set bought that hasn't it, less the WORTH of the others of CHEAPEST")
    static void p26DueOfOneAndOfTwo() {
        ChannelSqueeze two = Edges.heap(1, 5, 7);
        Check.gives(two, "one of two", two.due(1, 0), 7);
        ChannelSqueeze three = Edges.heap(1, 5, 7, 9);
        Check.gives(three, "5 of 5, 7, 9", three.due(1, 0), 9);
        Check.gives(three, "7 of 5, 7, 9", three.due(1, 1), 9);
        ChannelSqueeze row = Check.told("channels 2;station a at 0 0 reach 5 on 1 worth 30;station b at 10 0 reach 5 on 1 worth 20;"
            + "station c at 20 0 reach 5 on 1 worth 10");
        Check.gives(row, "two instead of one", row.due(1, 1), 40);
        row.value(1, 99);
        Check.gives(row, "one instead of two", row.due(1, 0), 89);
        Check.gives(row, "one instead of two", row.due(1, 2), 69);
    }

    @Says("What a STATION of CHEAPEST is due: the least WORTH together, were a set bought that hasn't it, less the WORTH of the others of CHEAPEST")
    static void p26LikeWorthsAndNought() {
        ChannelSqueeze like = Edges.heap(1, 5, 5);
        Check.gives(like, "its own worth", like.due(1, 0), 5);
        ChannelSqueeze nought = Edges.heap(1, 0, 0);
        Check.gives(nought, "nought", nought.due(1, 0), 0);
        ChannelSqueeze most = Edges.heap(1, 0, 999, 999);
        Check.gives(most, "the most", most.due(1, 0), 999);
        Check.gives(most, "another one", most.due(1, 1), 999);
    }

    @Says("-2: it isn't of CHEAPEST.")
    static void p26ItIsNotOfTheCheapest() {
        ChannelSqueeze x = Edges.heap(1, 5, 7, 9);
        Check.gives(x, "the dearest stays", x.due(1, 2), -2);
        x.buy(0, 0);
        Check.gives(x, "one off the air", x.due(1, 0), -2);
        Check.gives(x, "another one then", x.due(1, 1), 9);
        x.buy(1, 0);
        Check.gives(x, "nobody is bought", x.due(1, 2), -2);
        x.buy(2, 0);
        Check.gives(x, "nobody is on air", x.due(1, 2), -2);
    }

    @Says("NONE: 1; 2; 6 (without it there is no such set).")
    static void p26WithoutItThereIsNoSuchSet() {
        Edges.refused(6, "due(1, 0)", () -> {
            ChannelSqueeze x = Edges.apart(2, 5, 7);
            x.ban(0, 1);
            return x;
        }, x -> x.due(1, 0));
        ChannelSqueeze x = Edges.heap(1, 5, 7);
        x.ban(1, 1);
        Check.refuses(x, "due(1, 1)", x.due(1, 1), 6);
        Check.gives(x, "due(1, 0)", x.due(1, 0), -2);
        x.buy(1, 0);
        Check.gives(x, "off the air it isn't bought", x.due(1, 1), -2);
    }

    @Says("NONE: 1; 2; 6 (without it there is no such set).")
    static void p26Refused() {
        Edges.refused(1, "due(1, 0) without a text", Edges::fresh, x -> x.due(1, 0));
        for (int s : NO_STATIONS) {
            Edges.refused(1, "due(1, " + s + ")", Edges::rich, x -> x.due(1, s));
            Edges.refused(1, "due(0, " + s + ")", Edges::rich, x -> x.due(0, s));
        }
        for (int m : new int[] {0, 5, -1, Edges.MIN, Edges.MAX}) {
            Edges.refused(2, "due(" + m + ", 0)", Edges::rich, x -> x.due(m, 0));
        }
        Edges.asks(31, "due(1, 1)", Edges::rich, x -> x.due(1, 1));
        Edges.asks(-2, "due(4, 0)", Edges::rich, x -> x.due(4, 0));
    }

    // ---- promise 27

    private static void heard(ChannelSqueeze x, int atX, int atY, int... want) {
        for (int kind = 0; kind <= 2; kind++) {
            Check.gives(x, "heard(" + atX + ", " + atY + ", " + kind + ")", x.heard(atX, atY, kind), want[kind]);
        }
    }

    @Says("STATIONS ON AIR that are no farther than their REACH squared (kind 0, bits)")
    static void p27HeardUpToItsReach() {
        ChannelSqueeze x = Check.told("channels 3;station a at 20 20 reach 5 on 2 worth 1;station b at 80 80 reach 1 on 1 worth 1");
        heard(x, 20, 20, 1, 2, 0);
        heard(x, 25, 20, 1, 2, 0);
        heard(x, 20, 15, 1, 2, 0);
        heard(x, 17, 16, 1, 2, 0);
        heard(x, 23, 24, 1, 2, 0);
        heard(x, 26, 20, 0, 0, 0);
        heard(x, 25, 21, 0, 0, 0);
        heard(x, 20, 14, 0, 0, 0);
        heard(x, 81, 80, 2, 1, 0);
        heard(x, 81, 81, 0, 0, 0);
        x.buy(0, 0);
        heard(x, 20, 20, 0, 0, 0);
    }

    @Says("CHANNELS that just one of these has (1, bits), two or more have (2, bits)")
    static void p27OneTwoAndThreeOfAChannel() {
        ChannelSqueeze x = Check.told("channels 10;station a at 0 0 reach 9 on 1 worth 1;station b at 0 0 reach 9 on 1 worth 1;"
            + "station c at 0 0 reach 9 on 1 worth 1;station d at 0 0 reach 9 on 10 worth 1;station e at 0 0 reach 9 on 3 worth 1;"
            + "station f at 0 0 reach 9 on 3 worth 1;station g at 0 0 reach 8 on 10 worth 1");
        heard(x, 0, 9, 63, 512, 1 + 4);
        heard(x, 0, 8, 127, 0, 1 + 4 + 512);
        x.buy(0, 0);
        heard(x, 0, 9, 62, 512, 1 + 4);
        x.buy(1, 0);
        heard(x, 0, 9, 60, 1 + 512, 4);
        x.buy(2, 0);
        heard(x, 0, 9, 56, 512, 4);
        heard(x, 0, 10, 0, 0, 0);
    }

    @Says("At a place (X, Y 0 .. 99)")
    static void p27PlacesAtTheirEnds() {
        ChannelSqueeze x = Check.told("channels 1;station a at 0 0 reach 1 on 1 worth 1;station b at 99 99 reach 1 on 1 worth 1;"
            + "station c at 0 99 reach 1 on 1 worth 1;station d at 99 0 reach 1 on 1 worth 1");
        heard(x, 0, 0, 1, 1, 0);
        heard(x, 99, 99, 2, 1, 0);
        heard(x, 0, 99, 4, 1, 0);
        heard(x, 99, 0, 8, 1, 0);
    }

    @Says("NONE: 1 (no TEXT, kind); 2.")
    static void p27NoTextOrKind() {
        Edges.refused(1, "heard(0, 0, 0) without a text", Edges::fresh, x -> x.heard(0, 0, 0));
        Edges.refused(1, "heard(-1, 0, 0) without a text", Edges::fresh, x -> x.heard(-1, 0, 0));
        for (int kind : new int[] {-1, 3, Edges.MIN, Edges.MAX}) {
            Edges.refused(1, "heard(0, 0, " + kind + ")", Edges::rich, x -> x.heard(0, 0, kind));
            Edges.refused(1, "heard(-1, 100, " + kind + ")", Edges::rich, x -> x.heard(-1, 100, kind));
        }
    }

    @Says("NONE: 1 (no TEXT, kind); 2.")
    static void p27NoSuchPlace() {
        for (int v : new int[] {-1, 100, Edges.MIN, Edges.MAX}) {
            for (int kind = 0; kind <= 2; kind++) {
                int k = kind;
                Edges.refused(2, "heard(" + v + ", 0, " + k + ")", Edges::rich, x -> x.heard(v, 0, k));
                Edges.refused(2, "heard(0, " + v + ", " + k + ")", Edges::rich, x -> x.heard(0, v, k));
            }
        }
    }

    // ---- promise 28

    private static void islands(ChannelSqueeze x, int... want) {
        for (int what = 0; what <= 2; what++) {
            Check.gives(x, "islands(" + what + ")", x.islands(what), want[what]);
        }
    }

    /** Stations in one row, of a reach by which those up to four apart clash. */
    private static ChannelSqueeze inARow(int... places) {
        StringBuilder text = new StringBuilder("channels 3");
        for (int s = 0; s < places.length; s++) {
            text.append(";station ").append((char) ('a' + s)).append(" at ").append(places[s]).append(" 0 reach 2 on 1 worth 1");
        }
        return Check.told(text.toString());
    }

    @Says("STATIONS ON AIR fall into ISLANDS (one CLASHES with another one: of one ISLAND): how many (what 0)")
    static void p28FromNoneToEight() {
        islands(inARow(0), 1, 1, 1);
        islands(inARow(0, 5, 10, 15, 20, 25, 30, 35), 8, 1, 1);
        islands(inARow(0, 4, 8, 12, 16, 20, 24, 28), 1, 8, 255);
        ChannelSqueeze x = inARow(0, 4);
        x.buy(0, 0);
        islands(x, 1, 1, 2);
        x.buy(1, 0);
        islands(x, 0, 0, 0);
    }

    @Says("STATIONS ON AIR fall into ISLANDS (one CLASHES with another one: of one ISLAND): how many (what 0)")
    static void p28AcrossOthersInWhateverOrder() {
        islands(inARow(0, 16, 4, 20, 8, 24, 12, 28), 1, 8, 255);
        islands(inARow(28, 0, 4, 8, 12, 16, 20, 24), 1, 8, 255);
        islands(inARow(28, 24, 20, 16, 12, 8, 4, 0), 1, 8, 255);
        islands(inARow(0, 28, 4, 24, 8, 20, 13, 33), 4, 3, 1 + 4 + 16);
    }

    @Says("STATIONS ON AIR fall into ISLANDS (one CLASHES with another one: of one ISLAND): how many (what 0)")
    static void p28OneOffTheAirJoinsNobody() {
        ChannelSqueeze x = inARow(0, 4, 8);
        islands(x, 1, 3, 7);
        x.buy(1, 0);
        islands(x, 2, 1, 1);
        x.move(1, 3, true);
        x.air(1);
        islands(x, 1, 3, 7);
    }

    @Says("STATIONS ON AIR fall into ISLANDS (one CLASHES with another one: of one ISLAND): how many (what 0)")
    static void p28OnWhateverChannels() {
        ChannelSqueeze x = inARow(0, 4);
        x.move(1, 3, false);
        islands(x, 1, 2, 3);
    }

    @Says("how many the greatest has (1), it, of like ones that of the least STATION, as bits (2)")
    static void p28OfLikeOnesThatOfTheLeastStation() {
        islands(inARow(0, 90, 50, 94, 54), 3, 2, 2 + 8);
        islands(inARow(90, 0, 94, 4), 2, 2, 1 + 4);
        islands(inARow(90, 0, 4, 8, 94), 2, 3, 2 + 4 + 8);
        islands(inARow(0, 90, 94), 2, 2, 6);
    }

    @Says("NONE: 1 (no TEXT, what).")
    static void p28Refused() {
        for (int what = -1; what <= 3; what++) {
            int k = what;
            Edges.refused(1, "islands(" + k + ") without a text", Edges::fresh, x -> x.islands(k));
        }
        for (int what : new int[] {-1, 3, Edges.MIN, Edges.MAX}) {
            Edges.refused(1, "islands(" + what + ")", Edges::rich, x -> x.islands(what));
        }
        Edges.asks(1, "islands(0)", Edges::rich, x -> x.islands(0));
        Edges.asks(3, "islands(2)", Edges::rich, x -> x.islands(2));
    }

    // ---- promise 29

    @Says("The least CHANNEL below a STATION's NOW that is of its free(); 0: there is none.")
    static void p29TheLeastBelow() {
        ChannelSqueeze x = Edges.apart(10, 1, 1);
        x.move(0, 10, false);
        Check.gives(x, "from 10", x.lower(0), 1);
        for (int c = 1; c <= 8; c++) {
            x.ban(0, c);
            Check.gives(x, "without those up to " + c, x.lower(0), c + 1);
        }
        x.ban(0, 9);
        Check.gives(x, "its own channel isn't below", x.lower(0), 0);
        Check.gives(x, "nothing is below 1", x.lower(1), 0);
    }

    @Says("The least CHANNEL below a STATION's NOW that is of its free(); 0: there is none.")
    static void p29OthersStandInTheWay() {
        ChannelSqueeze brush = Edges.pair(5, 5, 0, 5);
        brush.move(0, 5, true);
        Check.gives(brush, "one that brushes on 1", brush.lower(0), 3);
        brush.move(1, 2, true);
        Check.gives(brush, "one that brushes on 2", brush.lower(0), 4);
        brush.move(1, 3, true);
        Check.gives(brush, "one that brushes on 3", brush.lower(0), 1);
        brush.move(0, 2, true);
        brush.move(1, 1, true);
        Check.gives(brush, "it is disturbed where it is, and below", brush.lower(0), 0);
        brush.buy(1, 0);
        Check.gives(brush, "one off the air doesn't", brush.lower(0), 1);
    }

    @Says("The least CHANNEL below a STATION's NOW that is of its free(); 0: there is none.")
    static void p29OfOneOffTheAirToo() {
        ChannelSqueeze x = Edges.rich();
        Check.gives(x, "c off the air on 4, bb on 2", x.lower(2), 1);
        x.ban(2, 1);
        Check.gives(x, "c off the air, 1 banned", x.lower(2), 3);
    }

    @Says("NONE: 1.")
    static void p29Refused() {
        Edges.refused(1, "lower(0) without a text", Edges::fresh, x -> x.lower(0));
        for (int s : NO_STATIONS) {
            Edges.refused(1, "lower(" + s + ")", Edges::rich, x -> x.lower(s));
        }
        Edges.asks(1, "lower(0)", Edges::rich, x -> x.lower(0));
    }
}
