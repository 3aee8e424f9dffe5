/** Promise 42, a sentence each: trouble. */
public final class TroubleEdgeTest {
    public static void main(String[] args) {
        Edges.run(TroubleEdgeTest.class);
    }

    private static void trouble(int want, String name, ChannelSqueeze x, Edges.Call call) {
        Check.same(name, call.on(x), -1);
        Check.same("trouble() of " + name, x.trouble(), want);
    }

    @Says("TROUBLE.")
    static void p42NoughtAtFirst() {
        Check.same("trouble() of a new object", new ChannelSqueeze().trouble(), 0);
    }

    @Says("TROUBLE of the latest call that may be refused (those of which a number is told here): 0 it wasn't")
    static void p42NoughtBehindACallThatWasNotRefused() {
        for (Calls.Named taken : Calls.TAKEN) {
            ChannelSqueeze x = Edges.rich();
            x.on(99);
            Check.same("trouble() ahead", x.trouble(), 2);
            Check.isTrue(taken.name + " is taken", taken.call.on(x) != -1);
            Check.same("trouble() of " + taken.name, x.trouble(), 0);
            Check.same("trouble() again", x.trouble(), 0);
        }
        ChannelSqueeze x = new ChannelSqueeze();
        x.about(0);
        Check.tell(x, Edges.ONE);
        Check.same("trouble() of text()", x.trouble(), 0);
    }

    @Says("TROUBLE of the latest call that may be refused (those of which a number is told here): 0 it wasn't")
    static void p42AnAnswerOfLessTwoIsNoRefusal() {
        ChannelSqueeze x = Edges.rich();
        Check.gives(x, "fewest()", heapOfTwo().fewest(3), -2);
        Check.gives(x, "proof(1, 1)", x.proof(1, 1), -2);
        Check.gives(x, "pay(4, 1, 1, 0)", x.pay(4, 1, 1, 0), -2);
        Check.gives(x, "squeeze(1)", x.squeeze(1), -2);
        Check.gives(x, "order(4, 0)", x.order(4, 0), -2);
        Check.gives(x, "steps(1, 0)", x.steps(1, 0), -2);
        Check.gives(x, "due(4, 0)", x.due(4, 0), -2);
    }

    private static ChannelSqueeze heapOfTwo() {
        return Edges.heap(2, 1, 1);
    }

    @Says("TROUBLE of the latest call that may be refused (those of which a number is told here): 0 it wasn't")
    static void p42ItStaysBehindCallsOfWhichNoNumberIsTold() {
        ChannelSqueeze x = Edges.rich();
        x.undo();
        for (int ahead : new int[] {0, 1, 2, 4, 5, 6}) {
            if (ahead == 4) {
                x.text(0);
            } else {
                toTrouble(x, ahead);
            }
            x.feed(0, 0, 0, 0, 0);
            x.fault();
            x.where();
            x.bytes();
            Edges.letterOf(x, 0, 0);
            Edges.letterOf(x, 9, 9);
            Check.same("trouble() of " + ahead, x.trouble(), ahead);
        }
    }

    private static void toTrouble(ChannelSqueeze x, int number) {
        switch (number) {
            case 0: x.about(0); break;
            case 1: x.about(-1); break;
            case 2: x.on(0); break;
            case 5: x.air(0); break;
            default: x.lay(1);
        }
        Check.same("trouble() ahead", x.trouble(), number);
    }

    @Says("1 there is none such (no TEXT, STATION, border, IMAGE, what)")
    static void p42NoneSuch() {
        trouble(1, "no text", new ChannelSqueeze(), x -> x.islands(0));
        trouble(1, "no station", Edges.rich(), x -> x.free(3));
        trouble(1, "no border", Edges.rich(), x -> x.border(1, 0));
        trouble(1, "no image", Edges.rich(), x -> x.back(2) ? 1 : -1);
        trouble(1, "no what", Edges.rich(), x -> x.about(9));
    }

    @Says("2 a number (a set with others than STATIONS, m, a CHANNEL, too)")
    static void p42ANumber() {
        trouble(2, "n", Edges.rich(), x -> x.text(21));
        trouble(2, "a set with others", Edges.rich(), x -> x.fits(8, 1));
        trouble(2, "m", Edges.rich(), x -> x.squeeze(5));
        trouble(2, "a channel", Edges.rich(), x -> x.on(5));
        trouble(2, "a price", Edges.rich(), x -> x.buy(0, 1000));
        trouble(2, "a step", Edges.rich(), x -> x.clear(1, 1, 0));
        trouble(2, "a place", Edges.rich(), x -> x.heard(0, 100, 0));
    }

    @Says("4 a FAULT; 5 not so; 6 there is none.")
    static void p42AFaultNotSoThereIsNone() {
        trouble(4, "a fault", Edges.rich(), x -> x.text(20));
        trouble(5, "not so: move", Edges.rich(), x -> x.move(0, 3, false));
        trouble(5, "not so: buy", Edges.rich(), x -> x.buy(2, 0));
        trouble(5, "not so: air", Edges.rich(), x -> x.air(0));
        trouble(5, "not so: undo", Check.told(Edges.ONE), x -> x.undo());
        trouble(6, "there is none: rowOf", Edges.rich(), x -> x.rowOf(3, 1, 0));
        trouble(6, "there is none: squeezeOf", Edges.rich(), x -> x.squeezeOf(1, 0));
        trouble(6, "there is none: order", Edges.rich(), x -> x.order(1, 0));
        trouble(6, "there is none: lay", Edges.rich(), x -> x.lay(1));
    }

    @Says("Of several the one that the call tells first.")
    static void p42NoneSuchGoesAheadOfANumber() {
        Edges.refused(1, "on(0) without a text", Edges::fresh, x -> x.on(0));
        Edges.refused(1, "fits(-1, 0) without a text", Edges::fresh, x -> x.fits(-1, 0));
        Edges.refused(1, "rows(-1, 0) without a text", Edges::fresh, x -> x.rows(-1, 0));
        Edges.refused(1, "fewest(-1) without a text", Edges::fresh, x -> x.fewest(-1));
        Edges.refused(1, "proof(-1, 0) without a text", Edges::fresh, x -> x.proof(-1, 0));
        Edges.refused(1, "rowOf(-1, 0, 3)", Edges::rich, x -> x.rowOf(-1, 0, 3));
        Edges.refused(1, "cheapest(0, 2)", Edges::rich, x -> x.cheapest(0, 2));
        Edges.refused(1, "could(-1, 0, 3)", Edges::rich, x -> x.could(-1, 0, 3));
        Edges.refused(1, "clock(0, -1, 0, 5)", Edges::rich, x -> x.clock(0, -1, 0, 5));
        Edges.refused(1, "pay(0, -1, 0, 3)", Edges::rich, x -> x.pay(0, -1, 0, 3));
        Edges.refused(1, "squeeze(0) without a text", Edges::fresh, x -> x.squeeze(0));
        Edges.refused(1, "squeezeOf(0, 3)", Edges::rich, x -> x.squeezeOf(0, 3));
        Edges.refused(1, "order(0, -1)", Edges::rich, x -> x.order(0, -1));
        Edges.refused(1, "steps(0, 3)", Edges::rich, x -> x.steps(0, 3));
        Edges.refused(1, "due(0, 3)", Edges::rich, x -> x.due(0, 3));
        Edges.refused(1, "heard(-1, 0, 3)", Edges::rich, x -> x.heard(-1, 0, 3));
        Edges.refused(1, "move(3, 0, false)", Edges::rich, x -> x.move(3, 0, false));
        Edges.refused(1, "buy(3, -1)", Edges::rich, x -> x.buy(3, -1));
        Edges.refused(1, "lay(0) without a text", Edges::fresh, x -> x.lay(0));
        Edges.refused(1, "clear(0, -1, 0) without a text", Edges::fresh, x -> x.clear(0, -1, 0));
        Edges.refused(1, "value(3, -1)", Edges::rich, x -> x.value(3, -1));
        Edges.refused(1, "ban(3, 0)", Edges::rich, x -> x.ban(3, 0));
    }

    @Says("Of several the one that the call tells first.")
    static void p42NoneSuchGoesAheadOfNotSo() {
        Edges.refused(1, "undo() of none without a text", Edges::fresh, x -> x.undo());
        Edges.refused(1, "air(3)", Edges::rich, x -> x.air(3));
        Edges.refused(1, "squeezeOf(1, 3), which doesn't fit", Edges::rich, x -> x.squeezeOf(1, 3));
        Edges.refused(1, "order(1, -1), which doesn't fit", Edges::rich, x -> x.order(1, -1));
    }

    @Says("Of several the one that the call tells first.")
    static void p42ANumberGoesAheadOfNotSoAndOfThereIsNone() {
        Edges.refused(2, "rowOf(3, 1, 2), not in the set, which doesn't fit", Edges::rich, x -> x.rowOf(3, 1, 2));
        Edges.refused(2, "buy(2, 1000), off the air", Edges::rich, x -> x.buy(2, 1000));
        Edges.refused(2, "move(0, 5, false)", Edges::rich, x -> x.move(0, 5, false));
        ChannelSqueeze x = Edges.apart(2, 1);
        Edges.banAllBut(x, 0);
        Check.refuses(x, "squeezeOf(3, 0), which fits nothing", x.squeezeOf(3, 0), 2);
        Check.refuses(x, "order(3, 0), which fits nothing", x.order(3, 0), 2);
        Check.refuses(x, "lay(3), which fits nothing", x.lay(3), 2);
        Check.refuses(x, "due(3, 0), without whom there is no set", x.due(3, 0), 2);
    }

    @Says("What is refused changes nothing but trouble(), where(); by 4 THE TAPE (empty then), fault().")
    static void p42OneRefusalBehindAnotherChangesNothing() {
        ChannelSqueeze x = Edges.rich();
        x.about(9);
        x.text(-1);
        x.on(0);
        x.rowOf(3, 1, 0);
        x.squeezeOf(1, 0);
        x.order(1, 0);
        x.move(0, 2, false);
        x.buy(2, 5);
        x.air(0);
        x.lay(1);
        x.clear(1, 1, 0);
        x.value(0, 1000);
        x.ban(0, 5);
        x.keep(2);
        x.back(-1);
        Check.same("trouble() of the last", x.trouble(), 1);
        Check.text("all", Edges.all(x), Edges.all(Edges.rich()));
    }

    @Says("What is refused changes nothing but trouble(), where(); by 4 THE TAPE (empty then), fault().")
    static void p42QuestionsChangeNothing() {
        for (Calls.Named taken : Calls.TAKEN) {
            if (!taken.name.matches("(move|buy|air|lay|clear|value|ban|undo|keep|back).*")) {
                ChannelSqueeze x = Edges.rich();
                taken.call.on(x);
                Check.text("all behind " + taken.name, Edges.all(x), Edges.all(Edges.rich()));
            }
        }
    }
}
