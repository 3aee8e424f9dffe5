import java.util.List;

/** The calls that may be refused, each with numbers that rich() and any text like it take. */
final class Calls {
    static final class Named {
        final String name;
        final Edges.Call call;

        Named(String name, Edges.Call call) {
            this.name = name;
            this.call = call;
        }
    }

    /** All but text(). */
    static final List<Named> TAKEN = List.of(
        new Named("about(0)", x -> x.about(0)),
        new Named("station(0, 0)", x -> x.station(0, 0)),
        new Named("border(0, 0)", x -> x.border(0, 0)),
        new Named("far(0, 1)", x -> x.far(0, 1)),
        new Named("near(0, 0)", x -> x.near(0, 0)),
        new Named("on(1)", x -> x.on(1)),
        new Named("free(0)", x -> x.free(0)),
        new Named("fits(1, 1)", x -> x.fits(1, 1)),
        new Named("rowOf(1, 1, 0)", x -> x.rowOf(1, 1, 0)),
        new Named("rows(1, 1)", x -> x.rows(1, 1)),
        new Named("fewest(1)", x -> x.fewest(1)),
        new Named("proof(1, 1)", x -> x.proof(1, 1)),
        new Named("cheapest(1, 0)", x -> x.cheapest(1, 0)),
        new Named("could(1, 1, 0)", x -> x.could(1, 1, 0)),
        new Named("clock(1, 1, 1, 0)", x -> x.clock(1, 1, 1, 0)),
        new Named("pay(1, 1, 1, 0)", x -> x.pay(1, 1, 1, 0)),
        new Named("squeeze(1)", x -> x.squeeze(1)),
        new Named("squeezeOf(2, 0)", x -> x.squeezeOf(2, 0)),
        new Named("order(2, 0)", x -> x.order(2, 0)),
        new Named("steps(1, 0)", x -> x.steps(1, 0)),
        new Named("due(1, 0)", x -> x.due(1, 0)),
        new Named("heard(0, 0, 0)", x -> x.heard(0, 0, 0)),
        new Named("islands(0)", x -> x.islands(0)),
        new Named("lower(0)", x -> x.lower(0)),
        new Named("move(0, 1, false)", x -> x.move(0, 1, false)),
        new Named("buy(0, 5)", x -> x.buy(0, 5)),
        new Named("air(2)", x -> x.air(2)),
        new Named("lay(2)", x -> x.lay(2)),
        new Named("clear(1, 1, 1)", x -> x.clear(1, 1, 1)),
        new Named("value(0, 5)", x -> x.value(0, 5)),
        new Named("ban(0, 1)", x -> x.ban(0, 1)),
        new Named("undo()", x -> x.undo()),
        new Named("keep(0)", x -> x.keep(0) ? 1 : -1),
        new Named("back(0)", x -> x.back(0) ? 1 : -1));

    private Calls() {
    }
}
