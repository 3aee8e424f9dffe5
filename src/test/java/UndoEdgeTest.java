/** Promises 37 to 39, a sentence each: acts undone, images. */
public final class UndoEdgeTest {
    private static final int[] NO_IMAGES = {-1, 2, 3, Edges.MIN, Edges.MAX};

    public static void main(String[] args) {
        Edges.run(UndoEdgeTest.class);
    }

    /** All that is now, as one text. */
    private static String now(ChannelSqueeze x) {
        StringBuilder all = new StringBuilder().append(x.about(3)).append(' ').append(x.about(6));
        for (int s = 0; s < x.about(1); s++) {
            all.append("; ").append(x.station(s, 3)).append(' ').append(x.station(s, 4)).append(' ').append(x.station(s, 7));
        }
        return all.toString();
    }

    /** Seven acts of seven kinds on THREE, none of them refused, none without effect. */
    private static void act(ChannelSqueeze x, int which) {
        switch (which) {
            case 0: x.move(0, 4, false); break;
            case 1: x.buy(1, 9); break;
            case 2: x.air(1); break;
            case 3: x.lay(2); break;
            case 4: x.clear(1, 50, 10); break;
            case 5: x.value(0, 77); break;
            default: x.ban(2, 4);
        }
    }

    private static int keep(ChannelSqueeze x, int i) {
        return x.keep(i) ? 1 : -1;
    }

    private static int back(ChannelSqueeze x, int i) {
        return x.back(i) ? 1 : -1;
    }

    // ---- promise 37

    @Says("The latest ACT is undone: how many still can be.")
    static void p37EachKindOfActIsUndone() {
        ChannelSqueeze x = Check.told(Edges.THREE);
        String[] ahead = new String[7];
        for (int which = 0; which < 7; which++) {
            ahead[which] = now(x);
            act(x, which);
            Check.same("trouble() of act " + which, x.trouble(), 0);
            Check.isTrue("act " + which + " changes something", !now(x).equals(ahead[which]));
        }
        for (int which = 6; which >= 0; which--) {
            Check.gives(x, "undo() of act " + which, x.undo(), which);
            Check.text("all ahead of act " + which, now(x), ahead[which]);
        }
    }

    /** Eight stations that differ in all, each act on each of them. */
    private static ChannelSqueeze eight() {
        StringBuilder text = new StringBuilder("channels 10");
        for (int s = 0; s < 8; s++) {
            text.append(";station ").append((char) ('a' + s)).append(" at ").append(9 * s).append(" 0 reach 1 on ").append(s + 1)
                .append(" worth ").append(100 + s).append(" not 10");
        }
        return Check.told(text.toString());
    }

    private static void actOn(ChannelSqueeze x, int s) {
        x.move(s, 10 - s, true);
        x.value(s, 200 + s);
        x.ban(s, s + 1);
        x.buy(s, 1 + s);
    }

    @Says("The latest ACT is undone: how many still can be.")
    static void p37OfEachOfEightStations() {
        for (int s = 0; s < 8; s++) {
            ChannelSqueeze x = eight();
            String at = now(x);
            actOn(x, s);
            Check.isTrue("acts on station " + s, !now(x).equals(at));
            for (int left = 3; left >= 0; left--) {
                Check.gives(x, "undo() on station " + s, x.undo(), left);
            }
            Check.text("all ahead of the acts on station " + s, now(x), at);
        }
    }

    @Says("The latest ACT is undone: how many still can be.")
    static void p37ABanUndoneCountsForWhatFits() {
        ChannelSqueeze x = Edges.apart(2, 1);
        x.ban(0, 1);
        Check.gives(x, "fits(1, 1) behind a ban", x.fits(1, 1), 0);
        x.undo();
        Check.gives(x, "fits(1, 1) behind its undoing", x.fits(1, 1), 1);
    }

    @Says("ACTS (calls that say so); the latest 10 that weren't refused can be undone, the latest first (a TEXT leaves none).")
    static void p37TheLatestTenAndNoMore() {
        for (int acts : new int[] {1, 9, 10, 11, 12, 19, 20, 21, 30, 31}) {
            ChannelSqueeze x = Edges.apart(2, 0);
            for (int v = 1; v <= acts; v++) {
                x.value(0, v);
            }
            int can = Math.min(acts, 10);
            Check.gives(x, acts + " acts", x.about(8), can);
            for (int left = can - 1; left >= 0; left--) {
                Check.gives(x, "undo() of " + acts, x.undo(), left);
                Check.gives(x, "worth then", x.station(0, 4), acts - can + left);
            }
            Check.refuses(x, "undo() of the eleventh, or of none", x.undo(), 5);
            Check.gives(x, "worth then", x.station(0, 4), acts - can);
        }
    }

    @Says("ACTS (calls that say so); the latest 10 that weren't refused can be undone, the latest first (a TEXT leaves none).")
    static void p37ActsBehindAnUndoing() {
        ChannelSqueeze x = Edges.apart(2, 0);
        for (int v = 1; v <= 14; v++) {
            x.value(0, v);
        }
        for (int times = 0; times < 6; times++) {
            x.undo();
        }
        Check.gives(x, "worth", x.station(0, 4), 8);
        for (int v = 101; v <= 105; v++) {
            x.value(0, v);
        }
        int[] want = {104, 103, 102, 101, 8, 7, 6, 5, 4};
        for (int i = 0; i < want.length; i++) {
            Check.gives(x, "undo()", x.undo(), 8 - i);
            Check.gives(x, "worth", x.station(0, 4), want[i]);
        }
        Check.refuses(x, "undo()", x.undo(), 5);
    }

    @Says("ACTS (calls that say so); the latest 10 that weren't refused can be undone, the latest first (a TEXT leaves none).")
    static void p37RefusedOnesAreNone() {
        ChannelSqueeze x = Check.told(Edges.THREE);
        x.value(0, 1);
        x.move(0, 2, false);
        x.move(0, 9, true);
        x.buy(9, 0);
        x.buy(0, -1);
        x.air(0);
        x.lay(1);
        x.lay(0);
        x.clear(0, 0, 0);
        x.value(0, -1);
        x.ban(0, 0);
        x.back(0);
        Check.gives(x, "acts", x.about(8), 1);
        Check.gives(x, "undo()", x.undo(), 0);
        Check.gives(x, "worth", x.station(0, 4), 30);
    }

    @Says("ACTS (calls that say so); the latest 10 that weren't refused can be undone, the latest first (a TEXT leaves none).")
    static void p37OtherCallsAreNone() {
        for (Calls.Named taken : Calls.TAKEN) {
            boolean act = taken.name.matches("(move|buy|air|lay|clear|value|ban).*");
            boolean away = taken.name.matches("(undo|back).*");
            if (!act && !away) {
                ChannelSqueeze x = Edges.rich();
                Check.isTrue(taken.name + " is taken", taken.call.on(x) != -1);
                Check.gives(x, "acts behind " + taken.name, x.about(8), 5);
                Check.gives(x, "undo() behind " + taken.name, x.undo(), 4);
                Check.gives(x, "worth", x.station(1, 4), 20);
            }
        }
    }

    @Says("ACTS (calls that say so); the latest 10 that weren't refused can be undone, the latest first (a TEXT leaves none).")
    static void p37ATextLeavesNone() {
        ChannelSqueeze x = Edges.rich();
        x.text(0);
        Check.gives(x, "a faulty text leaves all", x.about(8), 5);
        Check.tell(x, Edges.THREE);
        Check.gives(x, "acts", x.about(8), 0);
        Check.refuses(x, "undo()", x.undo(), 5);
    }

    @Says("NONE: 1 (no TEXT); 5.")
    static void p37Refused() {
        Edges.refused(1, "undo() without a text", Edges::fresh, x -> x.undo());
        Edges.refused(5, "undo() of none", () -> Check.told(Edges.THREE), x -> x.undo());
        Edges.refused(5, "undo() of one undone", () -> {
            ChannelSqueeze x = Check.told(Edges.THREE);
            x.value(0, 9);
            x.undo();
            return x;
        }, x -> x.undo());
    }

    // ---- promise 38

    @Says("IMAGE i (0, 1) is kept: true; false: 1 (no TEXT, too).")
    static void p38KeptAsItIsThen() {
        for (int i = 0; i <= 1; i++) {
            ChannelSqueeze x = Check.told(Edges.THREE);
            act(x, 0);
            act(x, 1);
            String then = now(x);
            Check.gives(x, "keep(" + i + ")", keep(x, i), 1);
            Check.gives(x, "acts stay", x.about(8), 2);
            x.value(0, 1);
            x.ban(0, 1);
            x.undo();
            x.move(2, 1, true);
            Check.gives(x, "back(" + i + ")", back(x, i), 1);
            Check.text("all", now(x), then);
        }
    }

    @Says("IMAGE i (0, 1) is kept: true; false: 1 (no TEXT, too).")
    static void p38TheLaterOfTwoStands() {
        ChannelSqueeze x = Edges.apart(2, 1);
        x.keep(0);
        x.value(0, 2);
        x.keep(1);
        x.value(0, 3);
        Check.gives(x, "keep(0) again", keep(x, 0), 1);
        x.value(0, 4);
        Check.gives(x, "back(1)", back(x, 1), 1);
        Check.gives(x, "worth of image 1", x.station(0, 4), 2);
        Check.gives(x, "back(0)", back(x, 0), 1);
        Check.gives(x, "worth of image 0", x.station(0, 4), 3);
    }

    @Says("IMAGE i (0, 1) is kept: true; false: 1 (no TEXT, too).")
    static void p38Refused() {
        for (int i : NO_IMAGES) {
            Edges.refused(1, "keep(" + i + ")", Edges::rich, x -> keep(x, i));
        }
        Edges.refused(1, "keep(0) without a text", Edges::fresh, x -> keep(x, 0));
        Edges.refused(1, "keep(1) without a text", Edges::fresh, x -> keep(x, 1));
        ChannelSqueeze x = new ChannelSqueeze();
        x.keep(0);
        Check.tell(x, Edges.THREE);
        Check.refuses(x, "back(0) to what was refused", back(x, 0), 1);
    }

    // ---- promise 39

    @Says("IMAGES 0, 1 keep all that is NOW (WORTHS, BANS, PAID, too)")
    static void p39AllComesBack() {
        for (int which = 0; which < 7; which++) {
            ChannelSqueeze x = Check.told(Edges.THREE);
            for (int ahead = 0; ahead < which; ahead++) {
                act(x, ahead);
            }
            String then = now(x);
            x.keep(which % 2);
            act(x, which);
            Check.isTrue("act " + which + " changes something", !now(x).equals(then));
            Check.gives(x, "back()", back(x, which % 2), 1);
            Check.text("all ahead of act " + which, now(x), then);
        }
    }

    @Says("IMAGES 0, 1 keep all that is NOW (WORTHS, BANS, PAID, too)")
    static void p39OfEachOfEightStations() {
        ChannelSqueeze x = eight();
        String first = now(x);
        x.keep(0);
        for (int s = 0; s < 8; s++) {
            actOn(x, s);
        }
        String second = now(x);
        x.keep(1);
        Check.gives(x, "back(0)", back(x, 0), 1);
        Check.text("all at first", now(x), first);
        Check.gives(x, "back(1)", back(x, 1), 1);
        Check.text("all at last", now(x), second);
    }

    @Says("IMAGES 0, 1 keep all that is NOW (WORTHS, BANS, PAID, too)")
    static void p39BansComeBackForWhatFits() {
        ChannelSqueeze x = Edges.apart(2, 1);
        x.keep(1);
        x.ban(0, 1);
        Check.gives(x, "fits(1, 1) behind a ban", x.fits(1, 1), 0);
        x.back(1);
        Check.gives(x, "fits(1, 1) back", x.fits(1, 1), 1);
        Check.gives(x, "list", x.station(0, 6), 3);
    }

    @Says("BACK TO one it is as then, no ACT can be undone (a TEXT leaves no IMAGE).")
    static void p39NoActCanBeUndoneThen() {
        ChannelSqueeze x = Edges.rich();
        Check.gives(x, "back(1)", back(x, 1), 1);
        Check.gives(x, "acts", x.about(8), 0);
        Check.refuses(x, "undo()", x.undo(), 5);
        x.value(0, 5);
        Check.gives(x, "acts since then", x.about(8), 1);
        Check.gives(x, "undo()", x.undo(), 0);
        Check.gives(x, "worth", x.station(0, 4), 31);
    }

    @Says("BACK TO it: true; false: 1 (it wasn't kept, too).")
    static void p39AgainAndAgain() {
        ChannelSqueeze x = Edges.rich();
        for (int times = 0; times < 3; times++) {
            Check.gives(x, "back(0)", back(x, 0), 1);
            Check.gives(x, "on air", x.about(3), 7);
            Check.gives(x, "back(1)", back(x, 1), 1);
            Check.gives(x, "on air", x.about(3), 3);
            x.buy(0, 1);
        }
    }

    @Says("BACK TO it: true; false: 1 (it wasn't kept, too).")
    static void p39ItWasNotKept() {
        Edges.refused(1, "back(0) of none kept", () -> Check.told(Edges.THREE), x -> back(x, 0));
        Edges.refused(1, "back(1) of none kept", () -> Check.told(Edges.THREE), x -> back(x, 1));
        Edges.refused(1, "back(1) if 0 was kept", () -> {
            ChannelSqueeze x = Check.told(Edges.THREE);
            x.value(0, 1);
            x.keep(0);
            return x;
        }, x -> back(x, 1));
        Edges.refused(1, "back(0) if 1 was kept", () -> {
            ChannelSqueeze x = Check.told(Edges.THREE);
            x.value(0, 1);
            x.keep(1);
            return x;
        }, x -> back(x, 0));
    }

    @Says("BACK TO it: true; false: 1 (it wasn't kept, too).")
    static void p39NoSuchImage() {
        for (int i : NO_IMAGES) {
            Edges.refused(1, "back(" + i + ")", Edges::rich, x -> back(x, i));
        }
        Edges.refused(1, "back(0) without a text", Edges::fresh, x -> back(x, 0));
        Edges.refused(1, "back(1) without a text", Edges::fresh, x -> back(x, 1));
    }

    @Says("(a TEXT leaves no IMAGE)")
    static void p39ATextLeavesNoImage() {
        for (int i = 0; i <= 1; i++) {
            ChannelSqueeze x = Edges.rich();
            x.text(0);
            Check.gives(x, "back(" + i + ") behind a faulty text", back(x, i), 1);
            Check.tell(x, Edges.THREE);
            Check.refuses(x, "back(" + i + ") behind another text", back(x, i), 1);
        }
    }
}
