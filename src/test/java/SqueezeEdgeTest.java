/** Promises 22 to 25, a sentence each: squeezed rows, the order of the moves, steps. */
public final class SqueezeEdgeTest {
    private static final int[] NO_CHANNELS = {0, 5, -1, 10, 33, Edges.MIN, Edges.MAX};

    public static void main(String[] args) {
        Edges.run(SqueezeEdgeTest.class);
    }

    private static void row(ChannelSqueeze x, int m, int moves, int... channels) {
        Check.gives(x, "squeeze(" + m + ")", x.squeeze(m), moves);
        for (int s = 0; s < channels.length; s++) {
            Check.gives(x, "squeezeOf(" + m + ", " + s + ")", x.squeezeOf(m, s), channels[s]);
        }
    }

    private static void order(ChannelSqueeze x, int m, int... stations) {
        for (int i = 0; i < stations.length; i++) {
            Check.gives(x, "order(" + m + ", " + i + ")", x.order(m, i), stations[i]);
        }
        Check.gives(x, "order(" + m + ", " + stations.length + ")", x.order(m, stations.length), -2);
    }

    private static void steps(ChannelSqueeze x, int m, int all, int most, int atLast) {
        Check.gives(x, "steps(" + m + ", 0)", x.steps(m, 0), all);
        Check.gives(x, "steps(" + m + ", 1)", x.steps(m, 1), most);
        Check.gives(x, "steps(" + m + ", 2)", x.steps(m, 2), atLast);
    }

    private static void place(ChannelSqueeze x, int... channels) {
        for (int s = 0; s < channels.length; s++) {
            x.move(s, channels[s], true);
        }
    }

    /** Stations of whom each clashes with the next, and nobody brushes. */
    private static ChannelSqueeze chain(int channels, int count) {
        StringBuilder text = new StringBuilder("channels " + channels);
        for (int s = 0; s < count; s++) {
            text.append(";station ").append((char) ('a' + s)).append(" at ").append(12 * s).append(" 0 reach 10 on 1 worth 1");
        }
        return Check.told(text.toString());
    }

    // ---- promise 22

    @Says("SQUEEZED by m: the ROW of all ON AIR up to m by which the fewest have another CHANNEL than NOW, of like ones the first.")
    static void p22FewestGoAheadOfTheFirstRow() {
        ChannelSqueeze x = chain(4, 3);
        place(x, 2, 1, 2);
        row(x, 2, 0, 2, 1, 2);
        place(x, 4, 3, 4);
        row(x, 4, 0, 4, 3, 4);
        row(x, 3, 2, 1, 3, 1);
        row(x, 2, 3, 1, 2, 1);
    }

    @Says("SQUEEZED by m: the ROW of all ON AIR up to m by which the fewest have another CHANNEL than NOW, of like ones the first.")
    static void p22OfLikeOnesTheFirst() {
        ChannelSqueeze x = chain(4, 2);
        row(x, 4, 1, 1, 2);
        place(x, 2, 2);
        row(x, 4, 1, 1, 2);
        x.ban(0, 1);
        row(x, 4, 1, 2, 1);
        x.ban(1, 1);
        row(x, 4, 1, 2, 3);
    }

    @Says("SQUEEZED by m: the ROW of all ON AIR up to m by which the fewest have another CHANNEL than NOW, of like ones the first.")
    static void p22OfLikeOnesTheFirstBehindOneThatStands() {
        for (boolean onAir : new boolean[] {true, false}) {
            ChannelSqueeze x = Check.told("channels 4;station a at 90 90 reach 1 on 3 worth 1;station b at 0 0 reach 5 on 1 worth 1;"
                + "station c at 8 0 reach 5 on 1 worth 1");
            if (!onAir) {
                x.buy(0, 0);
            }
            row(x, 4, 1, 3, 1, 2);
            place(x, 3, 2, 2);
            row(x, 4, 1, 3, 1, 2);
            place(x, 3, 3, 3);
            x.ban(1, 1);
            x.ban(1, 2);
            row(x, 4, 1, 3, 3, 1);
        }
    }

    @Says("SQUEEZED by m: the ROW of all ON AIR up to m by which the fewest have another CHANNEL than NOW, of like ones the first.")
    static void p22WhoIsOnTheLastChannelMayStay() {
        ChannelSqueeze x = Edges.apart(10, 1, 1);
        place(x, 10, 9);
        row(x, 10, 0, 10, 9);
        row(x, 9, 1, 1, 9);
        row(x, 8, 2, 1, 1);
        row(x, 1, 2, 1, 1);
    }

    @Says("SQUEEZED by m: the ROW of all ON AIR up to m by which the fewest have another CHANNEL than NOW, of like ones the first.")
    static void p22WhoIsNotOnItsListMustMove() {
        ChannelSqueeze x = chain(4, 2);
        place(x, 1, 2);
        x.ban(0, 1);
        row(x, 4, 1, 3, 2);
        x.ban(0, 3);
        x.ban(0, 4);
        row(x, 4, 2, 2, 1);
        x.ban(1, 1);
        row(x, 4, 2, 2, 3);
    }

    @Says("SQUEEZED: how many have another CHANNEL; -2: they don't FIT.")
    static void p22FromNoneToAllEight() {
        ChannelSqueeze x = chain(10, 8);
        place(x, 1, 2, 1, 2, 1, 2, 1, 2);
        row(x, 2, 0, 1, 2, 1, 2, 1, 2, 1, 2);
        place(x, 10, 10, 10, 10, 10, 10, 10, 10);
        row(x, 10, 4, 1, 10, 1, 10, 1, 10, 1, 10);
        row(x, 9, 8, 1, 2, 1, 2, 1, 2, 1, 2);
    }

    @Says("SQUEEZED: how many have another CHANNEL; -2: they don't FIT.")
    static void p22TheyDoNotFit() {
        Edges.asks(-2, "squeeze(1)", Edges::rich, x -> x.squeeze(1));
        ChannelSqueeze x = Edges.apart(3, 1, 1);
        Edges.banAllBut(x, 1);
        Check.gives(x, "one without a list", x.squeeze(3), -2);
        x.buy(1, 0);
        Check.gives(x, "it is off the air", x.squeeze(1), 0);
    }

    @Says("SQUEEZED: how many have another CHANNEL; -2: they don't FIT.")
    static void p22NobodyOnAirFits() {
        ChannelSqueeze x = Edges.heap(4, 1, 1);
        place(x, 4, 4);
        x.buy(0, 0);
        x.buy(1, 0);
        row(x, 1, 0, 4, 4);
    }

    @Says("NONE: 1 (no TEXT); 2.")
    static void p22Refused() {
        Edges.refused(1, "squeeze(1) without a text", Edges::fresh, x -> x.squeeze(1));
        Edges.refused(1, "squeeze(0) without a text", Edges::fresh, x -> x.squeeze(0));
        for (int m : NO_CHANNELS) {
            Edges.refused(2, "squeeze(" + m + ")", Edges::rich, x -> x.squeeze(m));
        }
        Edges.asks(0, "squeeze(4)", Edges::rich, x -> x.squeeze(4));
        Edges.asks(1, "squeeze(3)", Edges::rich, x -> x.squeeze(3));
    }

    // ---- promise 23

    @Says("SQUEEZED: the CHANNEL of a STATION (that isn't ON AIR: as NOW).")
    static void p23OneOffTheAirStandsWhereItIs() {
        ChannelSqueeze x = Edges.heap(4, 1, 1, 1);
        place(x, 4, 4, 4);
        x.ban(1, 4);
        x.buy(1, 0);
        x.buy(2, 0);
        row(x, 4, 0, 4, 4, 4);
        row(x, 1, 1, 1, 4, 4);
    }

    @Says("NONE: 1; 2; 6 (they don't FIT).")
    static void p23NoSuchStation() {
        Edges.refused(1, "squeezeOf(1, 0) without a text", Edges::fresh, x -> x.squeezeOf(1, 0));
        for (int s : new int[] {-1, 3, 8, Edges.MIN, Edges.MAX}) {
            Edges.refused(1, "squeezeOf(2, " + s + ")", Edges::rich, x -> x.squeezeOf(2, s));
            Edges.refused(1, "squeezeOf(0, " + s + ")", Edges::rich, x -> x.squeezeOf(0, s));
            Edges.refused(1, "squeezeOf(1, " + s + "), which doesn't fit", Edges::rich, x -> x.squeezeOf(1, s));
        }
    }

    @Says("NONE: 1; 2; 6 (they don't FIT).")
    static void p23ANumber() {
        for (int m : NO_CHANNELS) {
            Edges.refused(2, "squeezeOf(" + m + ", 0)", Edges::rich, x -> x.squeezeOf(m, 0));
        }
    }

    @Says("NONE: 1; 2; 6 (they don't FIT).")
    static void p23TheyDoNotFit() {
        Edges.refused(6, "squeezeOf(1, 0)", Edges::rich, x -> x.squeezeOf(1, 0));
        Edges.refused(6, "squeezeOf(1, 2) of one off the air", Edges::rich, x -> x.squeezeOf(1, 2));
    }

    // ---- promise 24

    @Says("of several the first, STATION by STATION the lesser number")
    static void p24OfSeveralTheLesserNumber() {
        ChannelSqueeze x = Edges.apart(3, 1, 1, 1, 1, 1, 1, 1, 1);
        place(x, 3, 3, 1, 3, 3, 3, 3, 3);
        row(x, 2, 7, 1, 1, 1, 1, 1, 1, 1, 1);
        order(x, 2, 0, 1, 3, 4, 5, 6, 7);
    }

    @Says("The ORDER of those that have another one: one by one they go to theirs, each so that it is then DISTURBED by none ON AIR, as these are then")
    static void p24EachWaitsForTheNextToLeave() {
        ChannelSqueeze x = chain(10, 8);
        for (int s = 0; s < 8; s++) {
            x.move(s, s + 1, true);
            Edges.banAllBut(x, s, s + 2);
        }
        row(x, 9, 8, 2, 3, 4, 5, 6, 7, 8, 9);
        order(x, 9, 7, 6, 5, 4, 3, 2, 1, 0);
    }

    @Says("The ORDER of those that have another one: one by one they go to theirs, each so that it is then DISTURBED by none ON AIR, as these are then")
    static void p24TheLesserNumberGoesAsSoonAsItMay() {
        ChannelSqueeze x = chain(4, 3);
        place(x, 1, 2, 4);
        Edges.banAllBut(x, 0, 2);
        Edges.banAllBut(x, 1, 3);
        Edges.banAllBut(x, 2, 1);
        row(x, 4, 3, 2, 3, 1);
        order(x, 4, 1, 0, 2);
    }

    @Says("The ORDER of those that have another one: one by one they go to theirs, each so that it is then DISTURBED by none ON AIR, as these are then")
    static void p24ChannelsBesideCountForThoseThatBrush() {
        for (int other : new int[] {2, 3, 4}) {
            ChannelSqueeze brush = Edges.pair(9, 9, 0, 1);
            place(brush, 5, other);
            Edges.banAllBut(brush, 0, 3);
            Edges.banAllBut(brush, 1, 1);
            row(brush, 5, 2, 3, 1);
            order(brush, 5, 1, 0);
            ChannelSqueeze clash = Edges.pair(9, 10, 0, 1);
            place(clash, 5, other);
            Edges.banAllBut(clash, 0, 3);
            Edges.banAllBut(clash, 1, 1);
            if (other == 3) {
                order(clash, 5, 1, 0);
            } else {
                order(clash, 5, 0, 1);
            }
        }
    }

    @Says("The ORDER of those that have another one: one by one they go to theirs, each so that it is then DISTURBED by none ON AIR, as these are then")
    static void p24OneOffTheAirIsInNobodysWay() {
        ChannelSqueeze x = chain(3, 3);
        place(x, 1, 2, 3);
        Edges.banAllBut(x, 0, 2);
        x.buy(1, 0);
        row(x, 3, 1, 2, 2, 3);
        order(x, 3, 0);
    }

    @Says("The i-th STATION of the ORDER (0: the first); -2: there is no ORDER, or it hasn't so many.")
    static void p24TwoThatChangePlacesHaveNoOrder() {
        ChannelSqueeze x = Check.told("channels 2;station a at 50 0 reach 5 on 2 worth 1 not 2;"
            + "station b at 0 0 reach 5 on 1 worth 1 not 1;station c at 8 0 reach 5 on 2 worth 1 not 2");
        row(x, 2, 3, 1, 2, 1);
        for (int i : new int[] {0, 1, 2, 3, Edges.MAX}) {
            Check.gives(x, "order(2, " + i + ")", x.order(2, i), -2);
        }
        Check.gives(x, "lay(2) goes all the same", x.lay(2), 3);
    }

    @Says("The i-th STATION of the ORDER (0: the first); -2: there is no ORDER, or it hasn't so many.")
    static void p24ItHasNotSoMany() {
        ChannelSqueeze x = Edges.apart(3, 1, 1);
        place(x, 3, 1);
        Check.gives(x, "order(2, 0)", x.order(2, 0), 0);
        for (int i : new int[] {1, 2, 8, Edges.MAX}) {
            Check.gives(x, "order(2, " + i + ")", x.order(2, i), -2);
        }
        Check.gives(x, "nobody has to move", x.order(3, 0), -2);
        x.buy(0, 0);
        x.buy(1, 0);
        Check.gives(x, "nobody is on air", x.order(1, 0), -2);
    }

    @Says("NONE: 1 (no TEXT; i below 0); 2; 6 (they don't FIT).")
    static void p24BelowNought() {
        Edges.refused(1, "order(1, 0) without a text", Edges::fresh, x -> x.order(1, 0));
        for (int i : new int[] {-1, Edges.MIN}) {
            Edges.refused(1, "order(3, " + i + ")", Edges::rich, x -> x.order(3, i));
            Edges.refused(1, "order(0, " + i + ")", Edges::rich, x -> x.order(0, i));
            Edges.refused(1, "order(1, " + i + "), which doesn't fit", Edges::rich, x -> x.order(1, i));
        }
    }

    @Says("NONE: 1 (no TEXT; i below 0); 2; 6 (they don't FIT).")
    static void p24ANumber() {
        for (int m : NO_CHANNELS) {
            Edges.refused(2, "order(" + m + ", 0)", Edges::rich, x -> x.order(m, 0));
            Edges.refused(2, "order(" + m + ", MAX)", Edges::rich, x -> x.order(m, Edges.MAX));
        }
    }

    @Says("NONE: 1 (no TEXT; i below 0); 2; 6 (they don't FIT).")
    static void p24TheyDoNotFit() {
        Edges.refused(6, "order(1, 0)", Edges::rich, x -> x.order(1, 0));
        Edges.refused(6, "order(1, MAX)", Edges::rich, x -> x.order(1, Edges.MAX));
        Edges.asks(0, "order(3, 0)", Edges::rich, x -> x.order(3, 0));
    }

    // ---- promise 25

    @Says("By steps: from CHANNELS less 1 down to m one by one, all ON AIR each time SQUEEZED from where they were behind the step ahead (the first from NOW)")
    static void p25EachStepFromTheOneAhead() {
        ChannelSqueeze x = Check.told("channels 4;station a at 10 1 reach 5 on 2 worth 1 not 3;"
            + "station b at 16 0 reach 3 on 4 worth 1 not 1;station c at 29 1 reach 7 on 4 worth 1");
        steps(x, 4, 0, 0, 0);
        steps(x, 3, 2, 2, 2);
        steps(x, 2, 4, 2, 3);
        steps(x, 1, -2, -2, -2);
        Check.gives(x, "at once it takes fewer", x.squeeze(2), 3);
    }

    @Says("0 how many moves in all steps together, 1 the most in one, 2 how many STATIONS have another CHANNEL at last than NOW")
    static void p25OneThatComesBackHasNoOtherAtLast() {
        ChannelSqueeze x = chain(4, 2);
        Edges.banAllBut(x, 0, 1, 2);
        Edges.banAllBut(x, 1, 1, 3);
        steps(x, 3, 1, 1, 1);
        steps(x, 2, 3, 2, 1);
        steps(x, 1, -2, -2, -2);
    }

    @Says("0 how many moves in all steps together, 1 the most in one, 2 how many STATIONS have another CHANNEL at last than NOW")
    static void p25TheMostMayBeOfAnyStep() {
        ChannelSqueeze x = Edges.apart(5, 1, 1, 1, 1, 1, 1, 1, 1);
        place(x, 5, 4, 4, 4, 3, 3, 2, 1);
        steps(x, 4, 1, 1, 1);
        steps(x, 3, 4, 3, 4);
        steps(x, 2, 6, 3, 6);
        steps(x, 1, 7, 3, 7);
    }

    @Says("-2: some step can't be.")
    static void p25SomeStepCannotBe() {
        ChannelSqueeze x = Edges.apart(4, 1, 1);
        Edges.banAllBut(x, 1, 4);
        steps(x, 3, -2, -2, -2);
        steps(x, 1, -2, -2, -2);
        ChannelSqueeze heap = Edges.heap(4, 1, 1);
        place(heap, 1, 4);
        steps(heap, 3, 1, 1, 1);
        steps(heap, 2, -2, -2, -2);
    }

    @Says("-2: some step can't be.")
    static void p25AStepWithoutAnOrderCanBe() {
        ChannelSqueeze x = chain(3, 2);
        place(x, 1, 2);
        Edges.banAllBut(x, 0, 2);
        Edges.banAllBut(x, 1, 1);
        Check.gives(x, "there is no order", x.order(2, 0), -2);
        steps(x, 2, 2, 2, 2);
    }

    @Says("(m all of them: no step.)")
    static void p25AllOfThemNoStep() {
        ChannelSqueeze x = Edges.heap(2, 1, 1);
        Check.gives(x, "they don't fit", x.squeeze(2), -2);
        steps(x, 2, 0, 0, 0);
        ChannelSqueeze one = Check.told("channels 1;station a at 0 0 reach 1 on 1 worth 1");
        steps(one, 1, 0, 0, 0);
        ChannelSqueeze wrong = Edges.pair(5, 5, 0, 5);
        Check.gives(wrong, "they fit by a move", wrong.squeeze(5), 1);
        steps(wrong, 5, 0, 0, 0);
        steps(wrong, 4, 1, 1, 1);
    }

    @Says("all ON AIR each time SQUEEZED")
    static void p25ThoseOffTheAirStand() {
        ChannelSqueeze x = Edges.apart(4, 1, 1, 1);
        place(x, 4, 4, 3);
        x.buy(0, 0);
        steps(x, 1, 2, 1, 2);
        x.buy(1, 0);
        x.buy(2, 0);
        steps(x, 1, 0, 0, 0);
    }

    @Says("NONE: 1 (no TEXT, what); 2.")
    static void p25Refused() {
        Edges.refused(1, "steps(1, 0) without a text", Edges::fresh, x -> x.steps(1, 0));
        Edges.refused(1, "steps(0, 0) without a text", Edges::fresh, x -> x.steps(0, 0));
        for (int what : new int[] {-1, 3, Edges.MIN, Edges.MAX}) {
            Edges.refused(1, "steps(4, " + what + ")", Edges::rich, x -> x.steps(4, what));
            Edges.refused(1, "steps(1, " + what + "), which can't be", Edges::rich, x -> x.steps(1, what));
            Edges.refused(1, "steps(0, " + what + ")", Edges::rich, x -> x.steps(0, what));
        }
        for (int m : NO_CHANNELS) {
            Edges.refused(2, "steps(" + m + ", 0)", Edges::rich, x -> x.steps(m, 0));
        }
        Edges.asks(1, "steps(2, 2)", Edges::rich, x -> x.steps(2, 2));
    }
}
