/** Promises 30 to 36, a sentence each: acts. */
public final class ActEdgeTest {
    private static final int[] NO_STATIONS = {-1, 3, 8, Edges.MIN, Edges.MAX};
    private static final int[] NO_CHANNELS = {0, 5, -1, 10, 33, Edges.MIN, Edges.MAX};
    private static final int[] NO_PRICES = {-1, 1000, Edges.MIN, Edges.MAX};

    public static void main(String[] args) {
        Edges.run(ActEdgeTest.class);
    }

    /** A call that is an act: its answer, one act more, and undone it is as without the call. */
    private static void acts(int want, String name, Edges.Call call) {
        ChannelSqueeze x = Edges.rich();
        Check.gives(x, name, call.on(x), want);
        Check.gives(x, "acts behind " + name, x.about(8), 6);
        Check.gives(x, "undo() of " + name, x.undo(), 5);
        Check.text("all behind the undoing of " + name, Edges.all(x), Edges.all(Edges.rich()));
    }

    private static void now(ChannelSqueeze x, int s, int channel, int worth, int air, int banned) {
        Check.gives(x, "channel of " + s, x.station(s, 3), channel);
        Check.gives(x, "worth of " + s, x.station(s, 4), worth);
        Check.gives(x, s + " on air", x.station(s, 5), air);
        Check.gives(x, "banned for " + s, x.station(s, 7), banned);
    }

    // ---- promise 30

    @Says("ACT: a STATION (ON AIR or not) has a CHANNEL: which it had.")
    static void p30MoveIsAnAct() {
        acts(4, "move(0, 1, false)", x -> x.move(0, 1, false));
        acts(4, "move(0, 3, true)", x -> x.move(0, 3, true));
        acts(4, "move(0, 4, false), where it is", x -> x.move(0, 4, false));
        acts(4, "move(2, 1, false), off the air", x -> x.move(2, 1, false));
    }

    @Says("ACT: a STATION (ON AIR or not) has a CHANNEL: which it had.")
    static void p30ItHasTheChannelAndNothingElse() {
        ChannelSqueeze x = Edges.rich();
        Check.gives(x, "move(0, 1, false)", x.move(0, 1, false), 4);
        now(x, 0, 1, 31, 1, 0);
        now(x, 1, 2, 21, 1, 12);
        Check.gives(x, "move(2, 1, false)", x.move(2, 1, false), 4);
        now(x, 2, 1, 10, 0, 0);
        Check.gives(x, "paid", x.about(6), 7);
    }

    @Says("ACT: a STATION (ON AIR or not) has a CHANNEL: which it had.")
    static void p30TheFirstChannelAndTheLast() {
        ChannelSqueeze x = Edges.apart(10, 1);
        Check.gives(x, "to 10", x.move(0, 10, false), 1);
        Check.gives(x, "to 1", x.move(0, 1, false), 10);
        Check.refuses(x, "to 11", x.move(0, 11, true), 2);
        Check.refuses(x, "to 0", x.move(0, 0, true), 2);
    }

    @Says("NONE: 1; 2; 5 (it isn't forced, and that isn't on its LIST, or another one ON AIR would DISTURB it there, be it ON AIR or not).")
    static void p30NoSuchStation() {
        Edges.refused(1, "move(0, 1, true) without a text", Edges::fresh, x -> x.move(0, 1, true));
        for (int s : NO_STATIONS) {
            Edges.refused(1, "move(" + s + ", 1, true)", Edges::rich, x -> x.move(s, 1, true));
            Edges.refused(1, "move(" + s + ", 0, false)", Edges::rich, x -> x.move(s, 0, false));
        }
    }

    @Says("NONE: 1; 2; 5 (it isn't forced, and that isn't on its LIST, or another one ON AIR would DISTURB it there, be it ON AIR or not).")
    static void p30NoSuchChannel() {
        for (int c : NO_CHANNELS) {
            Edges.refused(2, "move(0, " + c + ", true)", Edges::rich, x -> x.move(0, c, true));
            Edges.refused(2, "move(0, " + c + ", false)", Edges::rich, x -> x.move(0, c, false));
        }
    }

    @Says("NONE: 1; 2; 5 (it isn't forced, and that isn't on its LIST, or another one ON AIR would DISTURB it there, be it ON AIR or not).")
    static void p30NotOnItsList() {
        Edges.refused(5, "move(0, 3, false), a border's", Edges::rich, x -> x.move(0, 3, false));
        Edges.refused(5, "move(1, 3, false), banned", Edges::rich, x -> x.move(1, 3, false));
        acts(4, "move(0, 3, true), a border's", x -> x.move(0, 3, true));
        acts(2, "move(1, 3, true), banned", x -> x.move(1, 3, true));
        ChannelSqueeze x = Edges.rich();
        x.ban(2, 1);
        Check.refuses(x, "off the air, banned", x.move(2, 1, false), 5);
        Check.gives(x, "off the air, banned, but forced", x.move(2, 1, true), 4);
    }

    @Says("NONE: 1; 2; 5 (it isn't forced, and that isn't on its LIST, or another one ON AIR would DISTURB it there, be it ON AIR or not).")
    static void p30AnotherOneWouldDisturbIt() {
        Edges.refused(5, "move(0, 2, false), where bb is", Edges::rich, x -> x.move(0, 2, false));
        Edges.refused(5, "move(2, 2, false), off the air, where bb is", Edges::rich, x -> x.move(2, 2, false));
        acts(4, "move(0, 2, true), where bb is", x -> x.move(0, 2, true));
        acts(4, "move(2, 2, true), off the air, where bb is", x -> x.move(2, 2, true));
        ChannelSqueeze brush = Edges.pair(5, 5, 0, 1);
        brush.move(1, 3, false);
        int[] want = {1, -1, -1, -1, 1};
        for (int c = 1; c <= 5; c++) {
            Check.same("move(0, " + c + ", false) beside one that brushes", brush.move(0, c, false), want[c - 1]);
        }
    }

    @Says("NONE: 1; 2; 5 (it isn't forced, and that isn't on its LIST, or another one ON AIR would DISTURB it there, be it ON AIR or not).")
    static void p30OneOffTheAirDisturbsNobody() {
        ChannelSqueeze x = Edges.heap(2, 1, 1);
        Check.refuses(x, "both on air", x.move(0, 2, false), 5);
        x.buy(1, 0);
        Check.gives(x, "the other off the air", x.move(0, 2, false), 1);
        Check.gives(x, "to where the other is", x.move(0, 1, false), 2);
    }

    // ---- promise 31

    @Says("ACT: a STATION ON AIR is bought for v (0 .. 999), off the air then: PAID then.")
    static void p31BuyIsAnAct() {
        acts(7, "buy(0, 0)", x -> x.buy(0, 0));
        acts(1006, "buy(1, 999)", x -> x.buy(1, 999));
    }

    @Says("ACT: a STATION ON AIR is bought for v (0 .. 999), off the air then: PAID then.")
    static void p31OffTheAirThenAndNothingElse() {
        ChannelSqueeze x = Edges.rich();
        Check.gives(x, "buy(0, 999)", x.buy(0, 999), 1006);
        now(x, 0, 4, 31, 0, 0);
        Check.gives(x, "on air", x.about(3), 2);
        Check.gives(x, "paid", x.about(6), 1006);
        Check.gives(x, "buy(1, 1)", x.buy(1, 1), 1007);
        Check.gives(x, "none on air", x.about(3), 0);
    }

    @Says("ACT: a STATION ON AIR is bought for v (0 .. 999), off the air then: PAID then.")
    static void p31WhatIsPaidComesTogether() {
        ChannelSqueeze x = Edges.apart(1, 1);
        for (int times = 1; times <= 40; times++) {
            Check.gives(x, "buy " + times, x.buy(0, 999), 999 * times);
            x.air(0);
        }
    }

    @Says("NONE: 1; 2; 5 (it isn't ON AIR).")
    static void p31Refused() {
        Edges.refused(1, "buy(0, 0) without a text", Edges::fresh, x -> x.buy(0, 0));
        for (int s : NO_STATIONS) {
            Edges.refused(1, "buy(" + s + ", 0)", Edges::rich, x -> x.buy(s, 0));
            Edges.refused(1, "buy(" + s + ", -1)", Edges::rich, x -> x.buy(s, -1));
        }
        for (int v : NO_PRICES) {
            Edges.refused(2, "buy(0, " + v + ")", Edges::rich, x -> x.buy(0, v));
            Edges.refused(2, "buy(2, " + v + "), off the air", Edges::rich, x -> x.buy(2, v));
        }
    }

    @Says("NONE: 1; 2; 5 (it isn't ON AIR).")
    static void p31ItIsNotOnAir() {
        Edges.refused(5, "buy(2, 0)", Edges::rich, x -> x.buy(2, 0));
        Edges.refused(5, "buy(2, 999)", Edges::rich, x -> x.buy(2, 999));
    }

    // ---- promise 32

    @Says("ACT: one that isn't comes ON AIR: how many are.")
    static void p32AirIsAnAct() {
        acts(3, "air(2)", x -> x.air(2));
    }

    @Says("ACT: one that isn't comes ON AIR: how many are.")
    static void p32HowManyAre() {
        ChannelSqueeze x = Edges.apart(1, 1, 1, 1, 1, 1, 1, 1, 1);
        for (int s = 0; s < 8; s++) {
            x.buy(s, 1);
        }
        for (int s = 7; s >= 0; s--) {
            Check.gives(x, "air(" + s + ")", x.air(s), 8 - s);
            Check.gives(x, "on air", x.about(3), 256 - (1 << s));
        }
        Check.gives(x, "what was paid stays", x.about(6), 8);
    }

    @Says("NONE: 1; 5 (it is; its CHANNEL isn't on its LIST, or one ON AIR would DISTURB it).")
    static void p32NoSuchStation() {
        Edges.refused(1, "air(0) without a text", Edges::fresh, x -> x.air(0));
        for (int s : NO_STATIONS) {
            Edges.refused(1, "air(" + s + ")", Edges::rich, x -> x.air(s));
        }
    }

    @Says("NONE: 1; 5 (it is; its CHANNEL isn't on its LIST, or one ON AIR would DISTURB it).")
    static void p32ItIsOnAir() {
        Edges.refused(5, "air(0)", Edges::rich, x -> x.air(0));
    }

    @Says("NONE: 1; 5 (it is; its CHANNEL isn't on its LIST, or one ON AIR would DISTURB it).")
    static void p32ItsChannelIsNotOnItsList() {
        Edges.refused(5, "air(2) of a ban", () -> {
            ChannelSqueeze x = Edges.rich();
            x.ban(2, 4);
            return x;
        }, x -> x.air(2));
        ChannelSqueeze x = Check.told(Edges.THREE);
        x.move(0, 3, true);
        x.buy(0, 0);
        Check.refuses(x, "air(0) of a border", x.air(0), 5);
    }

    @Says("NONE: 1; 5 (it is; its CHANNEL isn't on its LIST, or one ON AIR would DISTURB it).")
    static void p32OneOnAirWouldDisturbIt() {
        Edges.refused(5, "air(2) where bb is", () -> {
            ChannelSqueeze x = Edges.rich();
            x.move(2, 2, true);
            return x;
        }, x -> x.air(2));
        ChannelSqueeze brush = Edges.pair(5, 5, 0, 1);
        brush.buy(0, 0);
        brush.move(1, 2, false);
        Check.refuses(brush, "beside one that brushes", brush.air(0), 5);
        brush.move(1, 3, false);
        Check.gives(brush, "two apart", brush.air(0), 2);
        ChannelSqueeze both = Edges.heap(1, 1, 1);
        both.buy(0, 0);
        both.buy(1, 0);
        Check.gives(both, "the other is off the air", both.air(0), 1);
        Check.refuses(both, "the other is on air", both.air(1), 5);
    }

    // ---- promise 33

    @Says("ACT: all ON AIR have their CHANNELS as SQUEEZED: how many other ones.")
    static void p33LayIsAnAct() {
        acts(1, "lay(2)", x -> x.lay(2));
        acts(0, "lay(4), which moves nobody", x -> x.lay(4));
    }

    @Says("ACT: all ON AIR have their CHANNELS as SQUEEZED: how many other ones.")
    static void p33AllOnAirHaveThem() {
        ChannelSqueeze x = Edges.apart(10, 1, 1, 1, 1, 1, 1, 1, 1);
        for (int s = 0; s < 8; s++) {
            x.move(s, 10, true);
        }
        x.buy(3, 0);
        Check.gives(x, "lay(9)", x.lay(9), 7);
        Check.gives(x, "on channel 1", x.on(1), 255 - 8);
        Check.gives(x, "one off the air stands", x.station(3, 3), 10);
        Check.gives(x, "lay(1)", x.lay(1), 0);
        Check.gives(x, "on air", x.about(3), 255 - 8);
    }

    @Says("ACT: all ON AIR have their CHANNELS as SQUEEZED: how many other ones.")
    static void p33NobodyOnAir() {
        ChannelSqueeze x = Edges.heap(2, 1, 1);
        x.move(0, 2, true);
        x.buy(0, 0);
        x.buy(1, 0);
        Check.gives(x, "lay(1)", x.lay(1), 0);
        Check.gives(x, "it is an act, too", x.about(8), 4);
        Check.gives(x, "channel of a", x.station(0, 3), 2);
    }

    @Says("NONE: 1 (no TEXT); 2; 6 (they don't FIT).")
    static void p33Refused() {
        Edges.refused(1, "lay(1) without a text", Edges::fresh, x -> x.lay(1));
        Edges.refused(1, "lay(0) without a text", Edges::fresh, x -> x.lay(0));
        for (int m : NO_CHANNELS) {
            Edges.refused(2, "lay(" + m + ")", Edges::rich, x -> x.lay(m));
        }
    }

    @Says("NONE: 1 (no TEXT); 2; 6 (they don't FIT).")
    static void p33TheyDoNotFit() {
        Edges.refused(6, "lay(1)", Edges::rich, x -> x.lay(1));
        Edges.refused(6, "lay(2) of one without a list", () -> {
            ChannelSqueeze x = Edges.apart(2, 1, 1);
            Edges.banAllBut(x, 1);
            return x;
        }, x -> x.lay(2));
    }

    // ---- promise 34

    @Says("ACT: THE CLOCK: FROZEN and SOLD ones are off the air, their PRICES are PAID: PAID then.")
    static void p34ClearIsAnAct() {
        acts(7 + 25, "clear(1, 25, 5)", x -> x.clear(1, 25, 5));
        acts(7, "clear(4, 999, 999), by which all stay", x -> x.clear(4, 999, 999));
        acts(7, "clear(1, 0, 1), which pays nothing", x -> x.clear(1, 0, 1));
    }

    @Says("ACT: THE CLOCK: FROZEN and SOLD ones are off the air, their PRICES are PAID: PAID then.")
    static void p34FrozenAndSoldOnesAreOffTheAir() {
        ChannelSqueeze x = Edges.apart(2, 0, 5, 9);
        x.ban(2, 1);
        Check.gives(x, "clear(1, 9, 2)", x.clear(1, 9, 2), 9);
        Check.gives(x, "b alone stays", x.about(3), 2);
        Check.gives(x, "paid", x.about(6), 9);
        now(x, 0, 1, 0, 0, 0);
        now(x, 2, 1, 9, 0, 1);
        Check.gives(x, "again nobody is bought", x.clear(1, 9, 2), 9);
        Check.gives(x, "b still", x.about(3), 2);
    }

    @Says("ACT: THE CLOCK: FROZEN and SOLD ones are off the air, their PRICES are PAID: PAID then.")
    static void p34AllEightForTheMost() {
        ChannelSqueeze x = Edges.apart(2, 1, 1, 1, 1, 1, 1, 1, 1);
        for (int s = 0; s < 8; s++) {
            x.ban(s, 1);
        }
        Check.gives(x, "clear(1, 999, 999)", x.clear(1, 999, 999), 7992);
        Check.gives(x, "none on air", x.about(3), 0);
        Check.gives(x, "of nobody", x.clear(1, 999, 999), 7992);
    }

    @Says("NONE: 1 (no TEXT); 2.")
    static void p34Refused() {
        Edges.refused(1, "clear(1, 1, 1) without a text", Edges::fresh, x -> x.clear(1, 1, 1));
        Edges.refused(1, "clear(0, -1, 0) without a text", Edges::fresh, x -> x.clear(0, -1, 0));
        for (int m : NO_CHANNELS) {
            Edges.refused(2, "clear(" + m + ", 1, 1)", Edges::rich, x -> x.clear(m, 1, 1));
        }
        for (int v : NO_PRICES) {
            Edges.refused(2, "clear(1, " + v + ", 1)", Edges::rich, x -> x.clear(1, v, 1));
            Edges.refused(2, "clear(1, 1, " + v + ")", Edges::rich, x -> x.clear(1, 1, v));
        }
        Edges.refused(2, "clear(1, 1, 0)", Edges::rich, x -> x.clear(1, 1, 0));
    }

    // ---- promise 35

    @Says("ACT: WORTH of a STATION is v (0 .. 999): what it was.")
    static void p35ValueIsAnAct() {
        acts(31, "value(0, 0)", x -> x.value(0, 0));
        acts(21, "value(1, 999)", x -> x.value(1, 999));
        acts(10, "value(2, 10), as it was, off the air", x -> x.value(2, 10));
    }

    @Says("ACT: WORTH of a STATION is v (0 .. 999): what it was.")
    static void p35ItIsThatAndNothingElse() {
        ChannelSqueeze x = Edges.rich();
        Check.gives(x, "value(0, 999)", x.value(0, 999), 31);
        now(x, 0, 4, 999, 1, 0);
        now(x, 1, 2, 21, 1, 12);
        Check.gives(x, "value(0, 0)", x.value(0, 0), 999);
        now(x, 0, 4, 0, 1, 0);
        Check.gives(x, "value(2, 1)", x.value(2, 1), 10);
        now(x, 2, 4, 1, 0, 0);
    }

    @Says("NONE: 1; 2.")
    static void p35Refused() {
        Edges.refused(1, "value(0, 0) without a text", Edges::fresh, x -> x.value(0, 0));
        for (int s : NO_STATIONS) {
            Edges.refused(1, "value(" + s + ", 0)", Edges::rich, x -> x.value(s, 0));
            Edges.refused(1, "value(" + s + ", -1)", Edges::rich, x -> x.value(s, -1));
        }
        for (int v : NO_PRICES) {
            Edges.refused(2, "value(0, " + v + ")", Edges::rich, x -> x.value(0, v));
        }
    }

    // ---- promise 36

    @Says("ACT: a CHANNEL is BANNED for a STATION, or not any more, if it was: its BANNED ones then (bits).")
    static void p36BanIsAnAct() {
        acts(1, "ban(0, 1)", x -> x.ban(0, 1));
        acts(8, "ban(1, 3), banned no more", x -> x.ban(1, 3));
        acts(8, "ban(2, 4), off the air", x -> x.ban(2, 4));
    }

    @Says("ACT: a CHANNEL is BANNED for a STATION, or not any more, if it was: its BANNED ones then (bits).")
    static void p36TheFirstChannelAndTheLast() {
        ChannelSqueeze x = Check.told("channels 10;station a at 0 0 reach 1 on 1 worth 1 not 10;station b at 0 0 reach 1 on 1 worth 1");
        Check.gives(x, "ban(0, 1)", x.ban(0, 1), 513);
        Check.gives(x, "ban(0, 10), told so", x.ban(0, 10), 1);
        Check.gives(x, "ban(0, 10)", x.ban(0, 10), 513);
        Check.gives(x, "ban(0, 1)", x.ban(0, 1), 512);
        Check.gives(x, "list", x.station(0, 6), 511);
        now(x, 0, 1, 1, 1, 512);
        now(x, 1, 1, 1, 1, 0);
    }

    @Says("ACT: a CHANNEL is BANNED for a STATION, or not any more, if it was: its BANNED ones then (bits).")
    static void p36BansOfManyCountAtOnce() {
        ChannelSqueeze x = Edges.apart(2, 1, 1, 1, 1, 1, 1, 1, 1);
        Check.gives(x, "all eight in 1", x.fits(255, 1), 1);
        Check.gives(x, "two in 1", x.fits(3, 1), 1);
        x.ban(0, 1);
        x.ban(1, 1);
        Check.gives(x, "two in 1, banned for both", x.fits(3, 1), 0);
        for (int s = 2; s < 8; s++) {
            x.ban(s, 1);
        }
        Check.gives(x, "six in 1, banned for all", x.fits(252, 1), 0);
        for (int s = 0; s < 8; s++) {
            x.ban(s, 1);
        }
        Check.gives(x, "all eight in 1 again", x.fits(255, 1), 1);
        for (int s = 0; s < 8; s++) {
            x.ban(s, 1);
        }
        Check.gives(x, "all eight in 1, banned for all", x.fits(255, 1), 0);
    }

    @Says("ACT: a CHANNEL is BANNED for a STATION, or not any more, if it was: its BANNED ones then (bits).")
    static void p36ABordersChannelStaysTheBorders() {
        ChannelSqueeze x = Check.told(Edges.THREE);
        Check.gives(x, "ban(0, 3)", x.ban(0, 3), 4);
        Check.gives(x, "list", x.station(0, 6), 11);
        Check.gives(x, "ban(0, 3) no more", x.ban(0, 3), 0);
        Check.gives(x, "list", x.station(0, 6), 11);
    }

    @Says("NONE: 1; 2.")
    static void p36Refused() {
        Edges.refused(1, "ban(0, 1) without a text", Edges::fresh, x -> x.ban(0, 1));
        for (int s : NO_STATIONS) {
            Edges.refused(1, "ban(" + s + ", 1)", Edges::rich, x -> x.ban(s, 1));
            Edges.refused(1, "ban(" + s + ", 0)", Edges::rich, x -> x.ban(s, 0));
        }
        for (int c : NO_CHANNELS) {
            Edges.refused(2, "ban(0, " + c + ")", Edges::rich, x -> x.ban(0, c));
        }
    }
}
