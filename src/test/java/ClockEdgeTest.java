/** Promises 20 and 21, a sentence each: the price that falls. */
public final class ClockEdgeTest {
    public static void main(String[] args) {
        Edges.run(ClockEdgeTest.class);
    }

    /** Rounds, who stays, who is frozen, who is sold, all prices; then what each station is paid. */
    private static void clock(ChannelSqueeze x, int m, int price, int step, int[] want, int... pays) {
        String by = "(" + m + ", " + price + ", " + step + ", ";
        for (int what = 0; what <= 4; what++) {
            Check.gives(x, "clock" + by + what + ")", x.clock(m, price, step, what), want[what]);
        }
        for (int s = 0; s < pays.length; s++) {
            Check.gives(x, "pay" + by + s + ")", x.pay(m, price, step, s), pays[s]);
        }
    }

    private static int[] of(int rounds, int stays, int frozen, int sold, int prices) {
        return new int[] {rounds, stays, frozen, sold, prices};
    }

    // ---- promise 20

    @Says("THE CLOCK by m, a PRICE (0 .. 999), a STEP (1 .. 999), of those ON AIR")
    static void p20PricesAndStepsAtTheirEnds() {
        clock(Edges.apart(1, 1), 1, 0, 1, of(1, 1, 0, 0, 0), -2);
        clock(Edges.apart(1, 1), 1, 0, 999, of(1, 1, 0, 0, 0), -2);
        clock(Edges.apart(1, 1), 1, 999, 1, of(1000, 1, 0, 0, 0), -2);
        clock(Edges.apart(1, 1), 1, 999, 999, of(2, 1, 0, 0, 0), -2);
        clock(Edges.apart(1, 999), 1, 999, 1, of(2, 1, 0, 0, 0), -2);
        clock(Edges.apart(1, 999), 1, 998, 1, of(1, 1, 0, 0, 0), -2);
    }

    @Says("ROUND by ROUND from 0 on at PRICE")
    static void p20TheFirstRoundIsAtThePriceItself() {
        clock(Edges.apart(1, 51), 1, 50, 10, of(1, 1, 0, 0, 0), -2);
        ChannelSqueeze x = Edges.apart(1, 51);
        x.ban(0, 1);
        clock(x, 1, 50, 10, of(1, 0, 1, 0, 50), 50);
    }

    @Says("else, if PRICE is below its WORTH, it STAYS")
    static void p20APriceOfItsWorthIsNotBelow() {
        clock(Edges.apart(1, 50), 1, 50, 10, of(2, 1, 0, 0, 0), -2);
        clock(Edges.apart(1, 50), 1, 49, 10, of(1, 1, 0, 0, 0), -2);
        clock(Edges.apart(1, 40), 1, 50, 10, of(3, 1, 0, 0, 0), -2);
        clock(Edges.apart(1, 41), 1, 50, 10, of(2, 1, 0, 0, 0), -2);
    }

    @Says("if it doesn't FIT m together with all that STAY, it is FROZEN at PRICE")
    static void p20FrozenInTheSameRoundBehindOneThatStays() {
        clock(Edges.heap(1, 50, 10), 1, 40, 15, of(1, 1, 2, 0, 40), -2, 40);
        clock(Edges.heap(3, 50, 20, 10), 3, 40, 15, of(3, 3, 4, 0, 10), -2, -2, 10);
    }

    @Says("if it doesn't FIT m together with all that STAY, it is FROZEN at PRICE")
    static void p20FrozenInTheNextRoundAheadOfOneThatStays() {
        clock(Edges.heap(1, 10, 50), 1, 40, 15, of(2, 2, 1, 0, 25), 25, -2);
        clock(Edges.heap(1, 10, 50), 1, 40, 40, of(2, 2, 1, 0, 0), 0, -2);
        clock(Edges.heap(3, 50, 10, 20), 3, 40, 15, of(4, 5, 2, 0, 0), -2, 0, -2);
    }

    @Says("if it doesn't FIT m together with all that STAY, it is FROZEN at PRICE")
    static void p20FrozenAtOnceIfItFitsNothing() {
        ChannelSqueeze x = Edges.apart(2, 0, 999);
        x.ban(0, 1);
        x.ban(1, 1);
        clock(x, 1, 999, 999, of(1, 0, 3, 0, 1998), 999, 999);
        clock(x, 1, 0, 1, of(1, 0, 3, 0, 0), 0, 0);
        clock(x, 2, 999, 999, of(2, 2, 0, 1, 0), 0, -2);
    }

    @Says("if it doesn't FIT m together with all that STAY, it is FROZEN at PRICE")
    static void p20FrozenGoesAheadOfStaying() {
        ChannelSqueeze x = Edges.heap(1, 50, 999);
        clock(x, 1, 40, 1, of(1, 1, 2, 0, 40), -2, 40);
    }

    @Says("if it doesn't FIT m together with all that STAY, it is FROZEN at PRICE")
    static void p20ThoseThatAreInItStillStandInNobodysWay() {
        ChannelSqueeze x = Edges.heap(1, 5, 5, 5);
        clock(x, 1, 9, 2, of(4, 1, 6, 0, 6), -2, 3, 3);
    }

    @Says("STATION by STATION, those that are in it still")
    static void p20OneThatStaysOrIsFrozenIsInItNoMore() {
        ChannelSqueeze x = Edges.heap(1, 30, 20, 0);
        clock(x, 1, 40, 5, of(4, 1, 6, 0, 50), -2, 25, 25);
        ChannelSqueeze apart = Edges.apart(1, 30, 20, 0);
        clock(apart, 1, 40, 5, of(9, 3, 0, 4, 0), -2, -2, 0);
    }

    @Says("Then PRICE is STEP less, 0 at least.")
    static void p20ThePriceFallsToNoughtAndNoLower() {
        clock(Edges.apart(1, 1), 1, 10, 3, of(5, 1, 0, 0, 0), -2);
        clock(Edges.apart(1, 1), 1, 9, 3, of(4, 1, 0, 0, 0), -2);
        clock(Edges.apart(1, 0), 1, 10, 3, of(5, 0, 0, 1, 0), 0);
        clock(Edges.apart(1, 0), 1, 1, 999, of(2, 0, 0, 1, 0), 0);
        clock(Edges.heap(1, 0, 1), 1, 3, 2, of(3, 2, 0, 1, 0), 0, -2);
        clock(Edges.heap(1, 1, 0), 1, 3, 2, of(3, 1, 2, 0, 0), -2, 0);
    }

    @Says("It is over as soon as, behind a ROUND, none is in it still")
    static void p20OverAsSoonAsNoneIsInItStill() {
        clock(Edges.apart(1, 100, 90), 1, 120, 10, of(5, 3, 0, 0, 0), -2, -2);
        clock(Edges.heap(1, 100, 90), 1, 120, 10, of(4, 1, 2, 0, 90), -2, 90);
    }

    @Says("It is over as soon as, behind a ROUND, none is in it still")
    static void p20WithNobodyOnAirOneRound() {
        ChannelSqueeze x = Edges.apart(1, 5, 6);
        x.buy(0, 0);
        x.buy(1, 0);
        clock(x, 1, 999, 1, of(1, 0, 0, 0, 0), -2, -2);
        clock(x, 1, 0, 1, of(1, 0, 0, 0, 0), -2, -2);
    }

    @Says("or that ROUND was at PRICE 0: those that are in it still are SOLD (at 0)")
    static void p20SoldAtNought() {
        clock(Edges.apart(1, 0, 1, 0), 1, 0, 1, of(1, 2, 0, 5, 0), 0, -2, 0);
        clock(Edges.apart(1, 0, 1, 0), 1, 7, 3, of(4, 2, 0, 5, 0), 0, -2, 0);
        clock(Edges.apart(1, 0), 1, 999, 1, of(1000, 0, 0, 1, 0), 0);
    }

    @Says("or that ROUND was at PRICE 0: those that are in it still are SOLD (at 0)")
    static void p20ARoundAtNoughtFreezesToo() {
        clock(Edges.heap(1, 1, 0), 1, 0, 5, of(1, 1, 2, 0, 0), -2, 0);
        clock(Edges.heap(1, 0, 1), 1, 0, 5, of(1, 2, 0, 1, 0), 0, -2);
    }

    @Says("of those ON AIR")
    static void p20ThoseOffTheAirAreNotInIt() {
        ChannelSqueeze x = Edges.heap(1, 9, 8, 7);
        x.buy(0, 0);
        clock(x, 1, 10, 1, of(4, 2, 4, 0, 7), -2, -2, 7);
    }

    @Says("THE CLOCK: 0 how many ROUNDS, 1 who STAYS (bits), 2 FROZEN ones (bits), 3 SOLD ones (bits), 4 all PRICES of FROZEN ones together.")
    static void p20AllEightFrozenForTheMost() {
        ChannelSqueeze x = Edges.apart(2, 1, 1, 1, 1, 1, 1, 1, 1);
        for (int s = 0; s < 8; s++) {
            x.ban(s, 1);
        }
        clock(x, 1, 999, 1, of(1, 0, 255, 0, 7992), 999, 999, 999, 999, 999, 999, 999, 999);
        clock(x, 2, 0, 1, of(1, 255, 0, 0, 0));
    }

    @Says("NONE: 1 (no TEXT, what); 2.")
    static void p20NoText() {
        Edges.refused(1, "clock(1, 1, 1, 0)", Edges::fresh, x -> x.clock(1, 1, 1, 0));
        Edges.refused(1, "clock(0, -1, 0, 0)", Edges::fresh, x -> x.clock(0, -1, 0, 0));
    }

    @Says("NONE: 1 (no TEXT, what); 2.")
    static void p20NoSuchWhat() {
        for (int what : new int[] {-1, 5, Edges.MIN, Edges.MAX}) {
            Edges.refused(1, "clock(1, 1, 1, " + what + ")", Edges::rich, x -> x.clock(1, 1, 1, what));
            Edges.refused(1, "clock(0, -1, 0, " + what + ")", Edges::rich, x -> x.clock(0, -1, 0, what));
        }
        Edges.asks(7, "clock(2, 50, 9, 0)", () -> Check.told(Edges.THREE.replace("worth 10", "worth 0")), x -> x.clock(2, 50, 9, 0));
    }

    private static final int[][] NO_NUMBERS = {{0, 1, 1}, {5, 1, 1}, {-1, 1, 1}, {Edges.MIN, 1, 1}, {Edges.MAX, 1, 1},
        {1, -1, 1}, {1, 1000, 1}, {1, Edges.MIN, 1}, {1, Edges.MAX, 1},
        {1, 1, 0}, {1, 1, -1}, {1, 1, 1000}, {1, 1, Edges.MIN}, {1, 1, Edges.MAX}};

    @Says("NONE: 1 (no TEXT, what); 2.")
    static void p20ANumber() {
        for (int[] n : NO_NUMBERS) {
            String by = "clock(" + n[0] + ", " + n[1] + ", " + n[2] + ", 0)";
            Edges.refused(2, by, Edges::rich, x -> x.clock(n[0], n[1], n[2], 0));
        }
    }

    // ---- promise 21

    @Says("THE CLOCK: at which PRICE a STATION was FROZEN or SOLD; -2: it STAYS, or isn't ON AIR.")
    static void p21FrozenOrSold() {
        ChannelSqueeze x = Edges.heap(1, 50, 10, 0);
        Check.gives(x, "frozen", x.pay(1, 40, 15, 1), 40);
        Check.gives(x, "frozen at the most", x.pay(1, 998, 999, 0), -2);
        ChannelSqueeze y = Edges.apart(1, 0, 1);
        Check.gives(y, "sold", y.pay(1, 40, 15, 0), 0);
        Check.gives(y, "stays", y.pay(1, 40, 15, 1), -2);
        y.ban(0, 1);
        Check.gives(y, "frozen at 999", y.pay(1, 999, 1, 0), 999);
        y.undo();
        Check.gives(y, "sold again", y.pay(1, 999, 1, 0), 0);
    }

    @Says("THE CLOCK: at which PRICE a STATION was FROZEN or SOLD; -2: it STAYS, or isn't ON AIR.")
    static void p21OneThatIsNotOnAir() {
        ChannelSqueeze x = Edges.heap(1, 50, 10, 0);
        x.buy(1, 33);
        Check.gives(x, "off the air", x.pay(1, 40, 15, 1), -2);
        Check.gives(x, "another one", x.pay(1, 40, 15, 2), 40);
        x.undo();
        Check.gives(x, "on air again", x.pay(1, 40, 15, 1), 40);
    }

    @Says("NONE: 1; 2.")
    static void p21NoSuchStation() {
        Edges.refused(1, "pay(1, 1, 1, 0) without a text", Edges::fresh, x -> x.pay(1, 1, 1, 0));
        for (int s : new int[] {-1, 3, 8, Edges.MIN, Edges.MAX}) {
            Edges.refused(1, "pay(1, 1, 1, " + s + ")", Edges::rich, x -> x.pay(1, 1, 1, s));
            Edges.refused(1, "pay(0, -1, 0, " + s + ")", Edges::rich, x -> x.pay(0, -1, 0, s));
        }
    }

    @Says("NONE: 1; 2.")
    static void p21ANumber() {
        for (int[] n : NO_NUMBERS) {
            String by = "pay(" + n[0] + ", " + n[1] + ", " + n[2] + ", 0)";
            Edges.refused(2, by, Edges::rich, x -> x.pay(n[0], n[1], n[2], 0));
        }
    }
}
