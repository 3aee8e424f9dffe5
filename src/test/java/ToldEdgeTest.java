/** Promises 6 to 12, a sentence each: what is told of stations, borders and channels. */
public final class ToldEdgeTest {
    public static void main(String[] args) {
        Edges.run(ToldEdgeTest.class);
    }

    private static void offTheAir(ChannelSqueeze x, int... stations) {
        for (int s : stations) {
            x.buy(s, 0);
        }
    }

    // ---- promise 6

    @Says("0 CHANNELS, 1 STATIONS, 2 borders, 3 those ON AIR (bits)")
    static void p06CountsAtTheirLeast() {
        ChannelSqueeze x = Check.told("channels 1;station a at 0 0 reach 1 on 1 worth 0");
        int[] want = {1, 1, 0, 1, 0, 0, 0, 1, 0};
        for (int what = 0; what <= 8; what++) {
            Check.gives(x, "about(" + what + ")", x.about(what), want[what]);
        }
    }

    @Says("0 CHANNELS, 1 STATIONS, 2 borders, 3 those ON AIR (bits)")
    static void p06CountsAtTheirMost() {
        StringBuilder text = new StringBuilder("channels 10");
        for (int s = 0; s < 8; s++) {
            text.append(";station ").append((char) ('a' + s)).append(" at 0 0 reach 60 on 10 worth 999");
        }
        ChannelSqueeze x = Check.told(text + ";border at 9 9 reach 1 not 1".repeat(4));
        int[] want = {10, 8, 4, 255, 255, 7992, 0, 10, 0};
        for (int what = 0; what <= 8; what++) {
            Check.gives(x, "about(" + what + ")", x.about(what), want[what]);
        }
    }

    @Says("3 those ON AIR (bits)")
    static void p06ThoseOnAir() {
        ChannelSqueeze x = Edges.apart(2, 1, 1, 1);
        Check.gives(x, "at first all are", x.about(3), 7);
        offTheAir(x, 1);
        Check.gives(x, "without b", x.about(3), 5);
        offTheAir(x, 0, 2);
        Check.gives(x, "none", x.about(3), 0);
        x.air(2);
        Check.gives(x, "c again", x.about(3), 4);
    }

    @Says("WRONG: one ON AIR whose CHANNEL isn't on its LIST, or whom another one ON AIR DISTURBS.")
    static void p06WrongByTheList() {
        ChannelSqueeze x = Check.told(Edges.THREE);
        Check.gives(x, "none is wrong", x.about(4), 0);
        x.move(0, 3, true);
        Check.gives(x, "on a channel of the border", x.about(4), 1);
        x.move(1, 4, true);
        x.move(2, 1, true);
        Check.gives(x, "on a banned channel, too", x.about(4), 3);
        offTheAir(x, 0);
        Check.gives(x, "one off the air isn't wrong", x.about(4), 2);
    }

    @Says("WRONG: one ON AIR whose CHANNEL isn't on its LIST, or whom another one ON AIR DISTURBS.")
    static void p06WrongByAnother() {
        ChannelSqueeze x = Edges.pair(5, 5, 0, 3);
        Check.gives(x, "on one channel both are", x.about(4), 3);
        x.move(0, 2, true);
        Check.gives(x, "beside each other both are", x.about(4), 3);
        x.move(0, 3, true);
        Check.gives(x, "two apart none is", x.about(4), 0);
        x.move(0, 1, true);
        offTheAir(x, 1);
        Check.gives(x, "one off the air disturbs nobody", x.about(4), 0);
    }

    @Says("WRONG: one ON AIR whose CHANNEL isn't on its LIST, or whom another one ON AIR DISTURBS.")
    static void p06NotItself() {
        ChannelSqueeze x = Check.told("channels 1;station a at 0 0 reach 60 on 1 worth 1");
        Check.gives(x, "one alone isn't disturbed", x.about(4), 0);
    }

    @Says("4 WRONG ones (bits), 5 WORTH of those ON AIR together, 6 PAID")
    static void p06WorthOfThoseOnAir() {
        ChannelSqueeze x = Edges.apart(2, 999, 0, 998);
        Check.gives(x, "of all", x.about(5), 1997);
        offTheAir(x, 0);
        Check.gives(x, "without a", x.about(5), 998);
        x.value(0, 5);
        Check.gives(x, "that of one off the air doesn't count", x.about(5), 998);
        x.value(1, 7);
        Check.gives(x, "as it is now", x.about(5), 1005);
        offTheAir(x, 1, 2);
        Check.gives(x, "of none", x.about(5), 0);
    }

    @Says("6 PAID")
    static void p06Paid() {
        ChannelSqueeze x = Edges.apart(2, 1, 1, 1);
        Check.gives(x, "at first", x.about(6), 0);
        x.buy(0, 999);
        x.buy(1, 0);
        x.buy(2, 999);
        Check.gives(x, "together", x.about(6), 1998);
        x.undo();
        Check.gives(x, "one undone", x.about(6), 999);
    }

    @Says("7 the greatest CHANNEL of one ON AIR (0 without)")
    static void p06TheGreatestChannelOfOneOnAir() {
        ChannelSqueeze x = Edges.apart(10, 1, 1, 1);
        x.move(1, 10, false);
        x.move(2, 4, false);
        Check.gives(x, "of all", x.about(7), 10);
        offTheAir(x, 1);
        Check.gives(x, "that of one off the air doesn't count", x.about(7), 4);
        offTheAir(x, 2);
        Check.gives(x, "of the first alone", x.about(7), 1);
        offTheAir(x, 0);
        Check.gives(x, "without one", x.about(7), 0);
    }

    @Says("8 ACTS that can be undone")
    static void p06ActsFromNoneToTen() {
        ChannelSqueeze x = Edges.apart(2, 1);
        for (int acts = 0; acts <= 12; acts++) {
            Check.gives(x, "behind " + acts + " acts", x.about(8), Math.min(acts, 10));
            x.value(0, acts);
        }
    }

    @Says("NONE: 1 (no TEXT, what)")
    static void p06NoText() {
        for (int what = -1; what <= 9; what++) {
            int k = what;
            Edges.refused(1, "about(" + k + ")", Edges::fresh, x -> x.about(k));
        }
    }

    @Says("NONE: 1 (no TEXT, what)")
    static void p06NoSuchWhat() {
        for (int what : new int[] {-1, 9, Edges.MIN, Edges.MAX}) {
            Edges.refused(1, "about(" + what + ")", Edges::rich, x -> x.about(what));
        }
    }

    // ---- promise 7

    @Says("Of a STATION 0 X, 1 Y, 2 REACH, 3 CHANNEL NOW, 4 WORTH, 5 1 ON AIR, 0, 6 its LIST (bits), 7 BANNED for it (bits).")
    static void p07NumbersAtTheirEnds() {
        ChannelSqueeze x = Check.told("channels 10;station a at 0 99 reach 1 on 10 worth 0;"
            + "station b at 99 0 reach 60 on 1 worth 999 not 1,2,3,4,5,6,7,8,9,10");
        int[][] want = {{0, 99, 1, 10, 0, 1, 1023, 0}, {99, 0, 60, 1, 999, 1, 0, 1023}};
        for (int s = 0; s <= 1; s++) {
            for (int what = 0; what <= 7; what++) {
                Check.gives(x, "station(" + s + ", " + what + ")", x.station(s, what), want[s][what]);
            }
        }
        offTheAir(x, 1);
        Check.gives(x, "b is off the air", x.station(1, 5), 0);
        Check.gives(x, "a is on air", x.station(0, 5), 1);
    }

    @Says("NOW each STATION has a CHANNEL (at first that told, on its LIST or not) and is ON AIR or not (at first all are).")
    static void p07TheChannelToldIsItsOnItsListOrNot() {
        ChannelSqueeze x = Check.told("channels 3;station a at 0 0 reach 1 on 2 worth 0 not 2;station b at 0 50 reach 1 on 3 worth 0;"
            + "border at 0 50 reach 1 not 3");
        Check.gives(x, "a banned channel", x.station(0, 3), 2);
        Check.gives(x, "a channel of a border", x.station(1, 3), 3);
        Check.gives(x, "both are on air", x.about(3), 3);
        Check.gives(x, "both are wrong", x.about(4), 3);
    }

    @Says("The LIST of a STATION: CHANNELS that aren't BANNED for it, nor told of a border of which it is no farther than the border's REACH squared.")
    static void p07TheListEndsAtTheBordersReach() {
        ChannelSqueeze x = Check.told("channels 5;border at 10 10 reach 5 not 1,5;station a at 13 14 reach 60 on 1 worth 0;"
            + "station b at 15 10 reach 1 on 1 worth 0;station c at 16 10 reach 60 on 1 worth 0;station d at 13 15 reach 60 on 1 worth 0;"
            + "station e at 10 10 reach 1 on 1 worth 0 not 1,2");
        int[] want = {14, 14, 31, 31, 12};
        for (int s = 0; s < want.length; s++) {
            Check.gives(x, "the list of station " + s, x.station(s, 6), want[s]);
        }
    }

    @Says("The LIST of a STATION: CHANNELS that aren't BANNED for it, nor told of a border of which it is no farther than the border's REACH squared.")
    static void p07SeveralBordersAndBansTakeTogether() {
        ChannelSqueeze x = Check.told("channels 4;border at 0 0 reach 9 not 1;station a at 0 0 reach 1 on 1 worth 0 not 2;"
            + "border at 0 9 reach 9 not 1,3;border at 0 10 reach 9 not 4");
        Check.gives(x, "two borders, one too far, a ban", x.station(0, 6), 8);
        x.ban(0, 4);
        Check.gives(x, "none is left", x.station(0, 6), 0);
        x.ban(0, 2);
        Check.gives(x, "banned no more", x.station(0, 6), 2);
        Check.gives(x, "a border bans nothing", x.station(0, 7), 8);
    }

    @Says("NONE: 1 (what, too).")
    static void p07NoSuchStation() {
        for (int s : new int[] {-1, 3, 8, Edges.MIN, Edges.MAX}) {
            Edges.refused(1, "station(" + s + ", 0)", Edges::rich, x -> x.station(s, 0));
        }
        Edges.refused(1, "station(0, 0) without a text", Edges::fresh, x -> x.station(0, 0));
    }

    @Says("NONE: 1 (what, too).")
    static void p07NoSuchWhat() {
        for (int what : new int[] {-1, 8, Edges.MIN, Edges.MAX}) {
            Edges.refused(1, "station(0, " + what + ")", Edges::rich, x -> x.station(0, what));
        }
    }

    // ---- promise 8

    @Says("Of a border 0 X, 1 Y, 2 REACH, 3 its CHANNELS (bits), 4 STATIONS for which it counts (bits).")
    static void p08NumbersAtTheirEnds() {
        ChannelSqueeze x = Check.told("channels 10;border at 0 99 reach 60 not 1,2,3,4,5,6,7,8,9,10;station a at 0 39 reach 1 on 1 worth 0;"
            + "station b at 0 38 reach 60 on 1 worth 0;border at 99 0 reach 1 not 10;station c at 36 51 reach 1 on 1 worth 0");
        int[][] want = {{0, 99, 60, 1023, 5}, {99, 0, 1, 512, 0}};
        for (int b = 0; b <= 1; b++) {
            for (int what = 0; what <= 4; what++) {
                Check.gives(x, "border(" + b + ", " + what + ")", x.border(b, what), want[b][what]);
            }
        }
    }

    @Says("4 STATIONS for which it counts (bits)")
    static void p08ItCountsAtItsReachAndNoFarther() {
        ChannelSqueeze x = Check.told("channels 2;border at 20 20 reach 5 not 1;station a at 15 20 reach 1 on 1 worth 0;"
            + "station b at 20 25 reach 1 on 1 worth 0;station c at 23 24 reach 1 on 1 worth 0;station d at 14 20 reach 60 on 1 worth 0;"
            + "station e at 25 21 reach 60 on 1 worth 0;station f at 20 20 reach 1 on 1 worth 0");
        Check.gives(x, "border(0, 4)", x.border(0, 4), 1 + 2 + 4 + 32);
        offTheAir(x, 0);
        Check.gives(x, "for one off the air, too", x.border(0, 4), 1 + 2 + 4 + 32);
    }

    @Says("NONE: 1 (what, too).")
    static void p08NoSuchBorder() {
        for (int b : new int[] {-1, 1, 4, Edges.MIN, Edges.MAX}) {
            Edges.refused(1, "border(" + b + ", 0)", Edges::rich, x -> x.border(b, 0));
        }
        Edges.refused(1, "border(0, 0) of a text without one", () -> Check.told(Edges.ONE), x -> x.border(0, 0));
        Edges.refused(1, "border(0, 0) without a text", Edges::fresh, x -> x.border(0, 0));
    }

    @Says("NONE: 1 (what, too).")
    static void p08NoSuchWhat() {
        for (int what : new int[] {-1, 5, Edges.MIN, Edges.MAX}) {
            Edges.refused(1, "border(0, " + what + ")", Edges::rich, x -> x.border(0, what));
        }
    }

    @Says("(up to 4: X, Y, REACH likewise; CHANNELS, each once)")
    static void p08TheFourthBorder() {
        ChannelSqueeze x = Check.told(Edges.ONE + ";border at 1 2 reach 3 not 1".repeat(3) + ";border at 99 98 reach 60 not 3");
        Check.gives(x, "border(3, 0)", x.border(3, 0), 99);
        Check.gives(x, "border(3, 1)", x.border(3, 1), 98);
        Check.refuses(x, "border(4, 0)", x.border(4, 0), 1);
    }

    // ---- promise 9

    @Says("Far: of two places (difference of X) squared and (difference of Y) squared, together.")
    static void p09FromNoughtToTheFarthest() {
        ChannelSqueeze x = Check.told("channels 1;station a at 0 99 reach 1 on 1 worth 0;station b at 99 0 reach 1 on 1 worth 0;"
            + "station c at 0 99 reach 60 on 1 worth 0;station d at 3 95 reach 1 on 1 worth 0;station e at 0 0 reach 1 on 1 worth 0");
        Check.gives(x, "from end to end", x.far(0, 1), 19602);
        Check.gives(x, "and back", x.far(1, 0), 19602);
        Check.gives(x, "at one place", x.far(0, 2), 0);
        Check.gives(x, "3 and 4", x.far(0, 3), 25);
        Check.gives(x, "3 and 4, back", x.far(3, 0), 25);
        Check.gives(x, "Y alone", x.far(0, 4), 9801);
        Check.gives(x, "X alone", x.far(4, 1), 9801);
    }

    @Says("How far two STATIONS are.")
    static void p09OneFromItself() {
        ChannelSqueeze x = Check.told(Edges.THREE);
        for (int s = 0; s < 3; s++) {
            Check.gives(x, "far(" + s + ", " + s + ")", x.far(s, s), 0);
        }
        offTheAir(x, 0);
        Check.gives(x, "off the air or not", x.far(0, 1), 225);
    }

    @Says("NONE: 1.")
    static void p09NoSuchStation() {
        for (int s : new int[] {-1, 3, 8, Edges.MIN, Edges.MAX}) {
            Edges.refused(1, "far(" + s + ", 0)", Edges::rich, x -> x.far(s, 0));
            Edges.refused(1, "far(0, " + s + ")", Edges::rich, x -> x.far(0, s));
            Edges.refused(1, "far(" + s + ", " + s + ")", Edges::rich, x -> x.far(s, s));
        }
        Edges.refused(1, "far(0, 0) without a text", Edges::fresh, x -> x.far(0, 0));
    }

    // ---- promise 10

    /** Whether a and b clash (1), brush (2), both ways round. */
    private static void nearness(int want, int reach, int x, int y, int other) {
        for (ChannelSqueeze two : new ChannelSqueeze[] {Edges.pair(reach, x, y, other), Edges.pair(other, x, y, reach)}) {
            String of = " of reaches " + reach + " and " + other + ", " + x + " " + y + " apart";
            Check.gives(two, "clash" + of, two.near(0, 0), (want & 1) * 2);
            Check.gives(two, "clash of b" + of, two.near(1, 0), want & 1);
            Check.gives(two, "brush" + of, two.near(0, 1), want & 2);
            Check.gives(two, "brush of b" + of, two.near(1, 1), (want & 2) / 2);
        }
    }

    @Says("Two STATIONS CLASH if how far they are is no more than (both REACHES together) squared")
    static void p10ClashUpToBothReachesTogether() {
        nearness(1, 5, 12, 0, 7);
        nearness(0, 5, 13, 0, 7);
        nearness(1, 2, 3, 4, 3);
        nearness(0, 2, 3, 5, 3);
        nearness(0, 2, 4, 4, 3);
        nearness(0, 5, 12, 1, 7);
        nearness(1, 1, 0, 2, 1);
        nearness(0, 1, 2, 1, 1);
        nearness(1, 60, 99, 67, 60);
        nearness(0, 60, 99, 68, 60);
        nearness(1, 60, 72, 96, 60);
    }

    @Says("they BRUSH if it is no more than (the greater REACH) squared")
    static void p10BrushUpToTheGreaterReach() {
        nearness(3, 5, 7, 0, 7);
        nearness(1, 5, 8, 0, 7);
        nearness(1, 5, 7, 1, 7);
        nearness(3, 1, 3, 4, 5);
        nearness(3, 5, 3, 4, 5);
        nearness(3, 1, 0, 1, 1);
        nearness(1, 1, 1, 1, 1);
        nearness(3, 1, 36, 48, 60);
        nearness(1, 1, 36, 49, 60);
        nearness(3, 1, 0, 0, 1);
    }

    @Says("They DISTURB each other on one CHANNEL if they CLASH, on CHANNELS one beside the other (n and n + 1) if they BRUSH.")
    static void p10OnOneChannelByClash() {
        ChannelSqueeze clash = Edges.pair(5, 8, 0, 7);
        ChannelSqueeze neither = Edges.pair(5, 13, 0, 7);
        for (int c = 1; c <= 5; c++) {
            for (ChannelSqueeze x : new ChannelSqueeze[] {clash, neither}) {
                x.move(0, c, true);
                x.move(1, c, true);
                Check.gives(x, "a on channel " + c, x.near(0, 2), x == clash ? 2 : 0);
                Check.gives(x, "b on channel " + c, x.near(1, 2), x == clash ? 1 : 0);
            }
        }
    }

    @Says("They DISTURB each other on one CHANNEL if they CLASH, on CHANNELS one beside the other (n and n + 1) if they BRUSH.")
    static void p10BesideEachOtherByBrush() {
        ChannelSqueeze brush = Edges.pair(5, 7, 0, 7);
        ChannelSqueeze clash = Edges.pair(5, 8, 0, 7);
        for (int c = 1; c <= 5; c++) {
            for (int d = 1; d <= 5; d++) {
                brush.move(0, c, true);
                brush.move(1, d, true);
                int due = Math.abs(c - d) <= 1 ? 1 : 0;
                Check.same("brush on " + c + " and " + d, brush.near(0, 2), 2 * due);
                Check.same("brush of b on " + c + " and " + d, brush.near(1, 2), due);
                clash.move(0, c, true);
                clash.move(1, d, true);
                Check.same("clash alone on " + c + " and " + d, clash.near(0, 2), c == d ? 2 : 0);
            }
        }
    }

    @Says("Other STATIONS that CLASH with one (kind 0), BRUSH it (1), DISTURB it NOW, both ON AIR (2), as bits.")
    static void p10OnlyOnAirDisturb() {
        ChannelSqueeze x = Edges.heap(3, 1, 1, 1);
        Check.gives(x, "all on air", x.near(0, 2), 6);
        offTheAir(x, 1);
        Check.gives(x, "b off the air", x.near(0, 2), 4);
        Check.gives(x, "of b itself", x.near(1, 2), 0);
        Check.gives(x, "b clashes all the same", x.near(0, 0), 6);
        Check.gives(x, "b brushes all the same", x.near(0, 1), 6);
        Check.gives(x, "clash of b", x.near(1, 0), 5);
        Check.gives(x, "brush of b", x.near(1, 1), 5);
        offTheAir(x, 0);
        Check.gives(x, "both off the air", x.near(0, 2), 0);
        Check.gives(x, "c alone on air", x.near(2, 2), 0);
    }

    @Says("Other STATIONS that CLASH with one (kind 0), BRUSH it (1), DISTURB it NOW, both ON AIR (2), as bits.")
    static void p10ItselfIsNoOther() {
        ChannelSqueeze one = Check.told(Edges.ONE);
        for (int kind = 0; kind <= 2; kind++) {
            Check.gives(one, "near(0, " + kind + ") of one alone", one.near(0, kind), 0);
        }
        ChannelSqueeze eight = Edges.heap(1, 1, 1, 1, 1, 1, 1, 1, 1);
        for (int s = 0; s < 8; s++) {
            for (int kind = 0; kind <= 2; kind++) {
                Check.gives(eight, "near(" + s + ", " + kind + ") of eight", eight.near(s, kind), 255 - (1 << s));
            }
        }
    }

    @Says("NONE: 1 (kind, too).")
    static void p10NoSuchStation() {
        for (int s : new int[] {-1, 3, 8, Edges.MIN, Edges.MAX}) {
            Edges.refused(1, "near(" + s + ", 0)", Edges::rich, x -> x.near(s, 0));
        }
        Edges.refused(1, "near(0, 0) without a text", Edges::fresh, x -> x.near(0, 0));
    }

    @Says("NONE: 1 (kind, too).")
    static void p10NoSuchKind() {
        for (int kind : new int[] {-1, 3, Edges.MIN, Edges.MAX}) {
            Edges.refused(1, "near(0, " + kind + ")", Edges::rich, x -> x.near(0, kind));
        }
    }

    // ---- promise 11

    @Says("STATIONS ON AIR on a CHANNEL NOW, as bits.")
    static void p11TheFirstChannelAndTheLast() {
        ChannelSqueeze x = Edges.apart(10, 1, 1, 1, 1, 1, 1, 1, 1);
        Check.gives(x, "all eight on channel 1", x.on(1), 255);
        Check.gives(x, "none on channel 10", x.on(10), 0);
        x.move(7, 10, false);
        x.move(0, 10, false);
        Check.gives(x, "two on channel 10", x.on(10), 129);
        Check.gives(x, "six on channel 1", x.on(1), 126);
        offTheAir(x, 7);
        Check.gives(x, "one off the air isn't there", x.on(10), 1);
    }

    @Says("NONE: 1 (no TEXT); 2.")
    static void p11NoText() {
        Edges.refused(1, "on(1)", Edges::fresh, x -> x.on(1));
        Edges.refused(1, "on(0)", Edges::fresh, x -> x.on(0));
    }

    @Says("NONE: 1 (no TEXT); 2.")
    static void p11NoSuchChannel() {
        for (int c : new int[] {0, 5, 10, -1, 33, Edges.MIN, Edges.MAX}) {
            Edges.refused(2, "on(" + c + ")", Edges::rich, x -> x.on(c));
        }
        ChannelSqueeze one = Check.told("channels 1;station a at 0 0 reach 1 on 1 worth 0");
        Check.gives(one, "on(1) of one channel", one.on(1), 1);
        Check.refuses(one, "on(2) of one channel", one.on(2), 2);
    }

    // ---- promise 12

    @Says("CHANNELS of its LIST on which a STATION would be DISTURBED by no other one ON AIR NOW, as bits.")
    static void p12FromNoneToAll() {
        ChannelSqueeze alone = Check.told("channels 10;station a at 0 0 reach 60 on 1 worth 0");
        Check.gives(alone, "all ten, its own too", alone.free(0), 1023);
        Edges.banAllBut(alone, 0);
        Check.gives(alone, "none without a list", alone.free(0), 0);
        ChannelSqueeze two = Check.told("channels 1;station a at 0 0 reach 1 on 1 worth 0;station b at 0 2 reach 1 on 1 worth 0");
        Check.gives(two, "none beside another", two.free(0), 0);
        offTheAir(two, 1);
        Check.gives(two, "one off the air disturbs nobody", two.free(0), 1);
    }

    @Says("CHANNELS of its LIST on which a STATION would be DISTURBED by no other one ON AIR NOW, as bits.")
    static void p12BesideTheFirstAndTheLastChannel() {
        ChannelSqueeze brush = Edges.pair(5, 5, 0, 1);
        ChannelSqueeze clash = Edges.pair(5, 6, 0, 1);
        int[] byBrush = {28, 24, 17, 3, 7};
        for (int c = 1; c <= 5; c++) {
            brush.move(1, c, true);
            Check.gives(brush, "another that brushes on " + c, brush.free(0), byBrush[c - 1]);
            clash.move(1, c, true);
            Check.gives(clash, "another that clashes on " + c, clash.free(0), 31 - (1 << c - 1));
        }
    }

    @Says("CHANNELS of its LIST on which a STATION would be DISTURBED by no other one ON AIR NOW, as bits.")
    static void p12OfOneOffTheAir() {
        ChannelSqueeze x = Edges.rich();
        Check.gives(x, "a, with bb on 2", x.free(0), 9);
        Check.gives(x, "bb, with a on 4, not 3 or 4", x.free(1), 3);
        Check.gives(x, "c off the air, with bb on 2", x.free(2), 13);
    }

    @Says("NONE: 1.")
    static void p12NoSuchStation() {
        for (int s : new int[] {-1, 3, 8, Edges.MIN, Edges.MAX}) {
            Edges.refused(1, "free(" + s + ")", Edges::rich, x -> x.free(s));
        }
        Edges.refused(1, "free(0) without a text", Edges::fresh, x -> x.free(0));
    }
}
