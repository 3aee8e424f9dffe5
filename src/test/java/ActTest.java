/** Promises 30 to 39: acts, their undoing, images. */
public final class ActTest {
    /** a clashes with b, b with c; nobody brushes; the border takes 3 from a. */
    private static final String ROW = "channels 4;station a at 0 0 reach 10 on 1 worth 30;"
        + "station b at 15 0 reach 10 on 2 worth 20;station c at 30 0 reach 10 on 4 worth 10;"
        + "border at 0 5 reach 5 not 3";

    public static void main(String[] args) {
        move();
        moveMindsBrushes();
        buy();
        air();
        lay();
        clear();
        value();
        ban();
        undoTenAtMost();
        refusedActsAreNoActs();
        keepAndBack();
        imagesStandAlone();
        Check.end();
    }

    private static void move() {
        ChannelSqueeze x = Check.told(ROW);
        Check.refuses(x, "not on its list", x.move(0, 3, false), 5);
        Check.refuses(x, "disturbed there", x.move(0, 2, false), 5);
        Check.gives(x, "move(0, 4, false)", x.move(0, 4, false), 1);
        Check.gives(x, "its channel", x.station(0, 3), 4);
        Check.gives(x, "to where it is", x.move(0, 4, false), 4);
        Check.gives(x, "that is an act, too", x.about(8), 2);
        Check.gives(x, "forced off its list", x.move(0, 3, true), 4);
        Check.gives(x, "forced to disturb", x.move(0, 2, true), 3);
        Check.gives(x, "acts", x.about(8), 4);
        x.buy(0, 0);
        Check.refuses(x, "off the air, not on its list", x.move(0, 3, false), 5);
        Check.refuses(x, "off the air, one on air would disturb it", x.move(0, 2, false), 5);
        Check.gives(x, "off the air it moves", x.move(0, 1, false), 2);
        Check.gives(x, "and stays off the air", x.about(3), 6);
        Check.gives(x, "one off the air disturbs nobody", x.move(1, 1, false), 2);
        String before = Check.state(x);
        for (int c : new int[] {0, 5, -1, Integer.MAX_VALUE}) {
            Check.refuses(x, "move(0, " + c + ", true)", x.move(0, c, true), 2);
            Check.refuses(x, "move(0, " + c + ", false)", x.move(0, c, false), 2);
            Check.refuses(x, "move(3, " + c + ", true)", x.move(3, c, true), 1);
        }
        Check.refuses(x, "move(-1, 1, true)", x.move(-1, 1, true), 1);
        Check.isTrue("nothing is changed", Check.state(x).equals(before));
    }

    private static void moveMindsBrushes() {
        ChannelSqueeze x = Check.told("channels 5;station a at 0 0 reach 9 on 1 worth 1;station b at 9 0 reach 2 on 5 worth 1");
        Check.refuses(x, "beside one that brushes, below", x.move(0, 4, false), 5);
        Check.refuses(x, "beside one that brushes, above", x.move(1, 2, false), 5);
        Check.gives(x, "two apart", x.move(1, 3, false), 5);
    }

    private static void buy() {
        ChannelSqueeze x = Check.told(ROW);
        Check.gives(x, "buy(1, 25)", x.buy(1, 25), 25);
        Check.gives(x, "buy(0, 999)", x.buy(0, 999), 1024);
        Check.gives(x, "paid", x.about(6), 1024);
        Check.gives(x, "on air", x.about(3), 4);
        Check.refuses(x, "off the air already", x.buy(1, 25), 5);
        Check.refuses(x, "buy(1, 1000)", x.buy(1, 1000), 2);
        Check.refuses(x, "buy(2, -1)", x.buy(2, -1), 2);
        Check.refuses(x, "buy(3, -1)", x.buy(3, -1), 1);
        Check.refuses(x, "buy(-1, 0)", x.buy(-1, 0), 1);
        Check.gives(x, "acts", x.about(8), 2);
        Check.gives(x, "buy(2, 0)", x.buy(2, 0), 1024);
        Check.gives(x, "none is on air", x.about(3), 0);
    }

    private static void air() {
        ChannelSqueeze x = Check.told(ROW);
        Check.refuses(x, "it is on air", x.air(0), 5);
        x.buy(1, 7);
        x.buy(2, 7);
        Check.gives(x, "air(1)", x.air(1), 2);
        Check.gives(x, "on air", x.about(3), 3);
        Check.gives(x, "what was paid stays", x.about(6), 14);
        x.buy(1, 0);
        x.move(1, 1, true);
        Check.refuses(x, "one on air would disturb it", x.air(1), 5);
        x.ban(1, 3);
        x.move(1, 3, true);
        Check.refuses(x, "its channel isn't on its list", x.air(1), 5);
        x.ban(1, 3);
        Check.gives(x, "air(1) again", x.air(1), 2);
        Check.gives(x, "air(2)", x.air(2), 3);
        Check.refuses(x, "air(3)", x.air(3), 1);
        Check.refuses(x, "air(-1)", x.air(-1), 1);
    }

    private static void lay() {
        ChannelSqueeze x = Check.told(ROW);
        Check.refuses(x, "lay(1)", x.lay(1), 6);
        Check.refuses(x, "lay(0)", x.lay(0), 2);
        Check.refuses(x, "lay(5)", x.lay(5), 2);
        Check.gives(x, "no act yet", x.about(8), 0);
        Check.gives(x, "lay(2)", x.lay(2), 1);
        Check.gives(x, "channel of a", x.station(0, 3), 1);
        Check.gives(x, "channel of b", x.station(1, 3), 2);
        Check.gives(x, "channel of c", x.station(2, 3), 1);
        Check.gives(x, "lay(2) again moves nobody", x.lay(2), 0);
        Check.gives(x, "that is an act, too", x.about(8), 2);
        x.move(0, 4, true);
        Check.gives(x, "the first station moves, too", x.lay(2), 1);
        Check.gives(x, "its channel", x.station(0, 3), 1);
        x.move(0, 4, true);
        x.buy(0, 0);
        Check.gives(x, "lay(2) of those on air", x.lay(2), 0);
        Check.gives(x, "one off the air stands", x.station(0, 3), 4);
    }

    private static void clear() {
        ChannelSqueeze x = Check.told(ROW);
        x.value(2, 0);
        Check.gives(x, "clear(1, 50, 10)", x.clear(1, 50, 10), 20);
        Check.gives(x, "b is frozen, c is sold", x.about(3), 1);
        Check.gives(x, "paid", x.about(6), 20);
        Check.gives(x, "clear again", x.clear(1, 50, 10), 20);
        Check.gives(x, "acts", x.about(8), 3);
        Check.gives(x, "undo", x.undo(), 2);
        Check.gives(x, "undo", x.undo(), 1);
        Check.gives(x, "on air again", x.about(3), 7);
        Check.gives(x, "nothing is paid", x.about(6), 0);
        x.buy(0, 5);
        Check.gives(x, "prices come to what was paid", x.clear(1, 9, 1), 14);
        Check.gives(x, "b stays", x.about(3), 2);
        int[][] bad = {{0, 1, 1}, {5, 1, 1}, {1, -1, 1}, {1, 1000, 1}, {1, 1, 0}, {1, 1, 1000}};
        for (int[] b : bad) {
            Check.refuses(x, "clear", x.clear(b[0], b[1], b[2]), 2);
        }
    }

    private static void value() {
        ChannelSqueeze x = Check.told(ROW);
        Check.gives(x, "value(0, 999)", x.value(0, 999), 30);
        Check.gives(x, "value(0, 0)", x.value(0, 0), 999);
        Check.gives(x, "worth", x.station(0, 4), 0);
        Check.gives(x, "worth of those on air", x.about(5), 30);
        x.buy(1, 0);
        Check.gives(x, "of one off the air", x.value(1, 21), 20);
        Check.gives(x, "acts", x.about(8), 4);
        Check.refuses(x, "value(0, 1000)", x.value(0, 1000), 2);
        Check.refuses(x, "value(0, -1)", x.value(0, -1), 2);
        Check.refuses(x, "value(3, -1)", x.value(3, -1), 1);
        Check.refuses(x, "value(-1, 0)", x.value(-1, 0), 1);
        Check.gives(x, "acts", x.about(8), 4);
    }

    private static void ban() {
        ChannelSqueeze x = Check.told(ROW);
        Check.gives(x, "ban(0, 4)", x.ban(0, 4), 8);
        Check.gives(x, "ban(0, 1)", x.ban(0, 1), 9);
        Check.gives(x, "list", x.station(0, 6), 2);
        Check.gives(x, "not any more", x.ban(0, 4), 1);
        Check.gives(x, "a channel of the border, too", x.ban(0, 3), 5);
        Check.gives(x, "list", x.station(0, 6), 10);
        Check.gives(x, "the border still counts", x.ban(0, 3), 1);
        Check.gives(x, "list", x.station(0, 6), 10);
        Check.gives(x, "nobody else's", x.station(1, 7), 0);
        Check.gives(x, "its channel stays", x.station(0, 3), 1);
        Check.refuses(x, "ban(0, 0)", x.ban(0, 0), 2);
        Check.refuses(x, "ban(0, 5)", x.ban(0, 5), 2);
        Check.refuses(x, "ban(3, 0)", x.ban(3, 0), 1);
        Check.refuses(x, "ban(-1, 1)", x.ban(-1, 1), 1);
        Check.gives(x, "acts", x.about(8), 5);
    }

    private static void act(ChannelSqueeze x, int which) {
        switch (which) {
            case 0: x.move(0, 4, false); break;
            case 1: x.buy(1, 9); break;
            case 2: x.air(1); break;
            case 3: x.lay(2); break;
            case 4: x.clear(1, 50, 10); break;
            case 5: x.value(0, 77); break;
            default: x.ban(2, 4);
        }
    }

    private static void undoTenAtMost() {
        ChannelSqueeze x = Check.told(ROW);
        for (int v = 1; v <= 23; v++) {
            x.value(0, v);
            Check.gives(x, "acts", x.about(8), Math.min(v, 10));
        }
        for (int left = 9; left >= 0; left--) {
            Check.gives(x, "undo()", x.undo(), left);
            Check.gives(x, "worth", x.station(0, 4), 13 + left);
        }
        Check.refuses(x, "undo() of the eleventh", x.undo(), 5);
        Check.gives(x, "worth", x.station(0, 4), 13);
        x.value(0, 500);
        x.value(0, 501);
        Check.gives(x, "undo()", x.undo(), 1);
        Check.gives(x, "worth", x.station(0, 4), 500);
        Check.gives(x, "another act", x.value(0, 502), 500);
        Check.gives(x, "undo()", x.undo(), 1);
        Check.gives(x, "worth", x.station(0, 4), 500);
        Check.gives(x, "undo()", x.undo(), 0);
        Check.gives(x, "worth", x.station(0, 4), 13);
    }

    private static void refusedActsAreNoActs() {
        ChannelSqueeze x = Check.told(ROW);
        x.value(0, 1);
        String before = Check.state(x);
        x.move(0, 2, false);
        x.buy(9, 0);
        x.air(0);
        x.lay(1);
        x.clear(0, 0, 0);
        x.value(0, -1);
        x.ban(0, 0);
        Check.isTrue("nothing is changed", Check.state(x).equals(before));
        Check.gives(x, "undo() of the one act", x.undo(), 0);
        Check.gives(x, "worth", x.station(0, 4), 30);
    }

    private static void keepAndBack() {
        ChannelSqueeze x = Check.told(ROW);
        Check.isTrue("back(0) to none", !x.back(0));
        Check.same("its trouble", x.trouble(), 1);
        x.move(0, 4, false);
        x.value(1, 5);
        x.ban(2, 1);
        x.buy(1, 6);
        String kept = Check.state(x).replaceFirst(" 4 4 ", " 4 0 ");
        Check.isTrue("keep(1)", x.keep(1));
        Check.same("its trouble", x.trouble(), 0);
        Check.gives(x, "keep is no act, and leaves them", x.about(8), 4);
        Check.isTrue("back(0) to none still", !x.back(0));
        for (int which = 0; which < 7; which++) {
            act(x, which);
        }
        Check.isTrue("back(1)", x.back(1));
        Check.same("its trouble", x.trouble(), 0);
        Check.isTrue("it is as then, and no act can be undone", Check.state(x).equals(kept));
        Check.refuses(x, "undo()", x.undo(), 5);
        x.value(0, 8);
        Check.isTrue("back(1) again", x.back(1));
        Check.isTrue("it is as then once more", Check.state(x).equals(kept));
        for (int i : new int[] {-1, 2, Integer.MIN_VALUE, Integer.MAX_VALUE}) {
            x.about(0);
            Check.isTrue("keep(" + i + ")", !x.keep(i));
            Check.same("its trouble", x.trouble(), 1);
            x.about(0);
            Check.isTrue("back(" + i + ")", !x.back(i));
            Check.same("its trouble", x.trouble(), 1);
        }
        Check.isTrue("nothing is changed", Check.state(x).equals(kept));
    }

    private static void imagesStandAlone() {
        ChannelSqueeze x = Check.told(ROW);
        x.value(0, 1);
        x.keep(0);
        x.value(0, 2);
        x.keep(1);
        x.value(0, 3);
        Check.gives(x, "undo() doesn't mind images", x.undo(), 2);
        Check.gives(x, "worth", x.station(0, 4), 2);
        Check.isTrue("back(0)", x.back(0));
        Check.gives(x, "worth of image 0", x.station(0, 4), 1);
        Check.isTrue("back(1)", x.back(1));
        Check.gives(x, "worth of image 1", x.station(0, 4), 2);
        x.value(0, 9);
        x.keep(0);
        x.undo();
        Check.isTrue("back(0) to the later image", x.back(0));
        Check.gives(x, "worth of image 0 then", x.station(0, 4), 9);
    }
}
