/** Promises 1, 2 and 41, a sentence each: a new object, the tape. */
public final class TapeEdgeTest {
    private static final int BLANKS = 0x20202020;

    public static void main(String[] args) {
        Edges.run(TapeEdgeTest.class);
    }

    private static void fill(ChannelSqueeze x, int times) {
        for (int i = 0; i < times; i++) {
            x.feed(BLANKS, BLANKS, BLANKS, BLANKS, BLANKS);
        }
    }

    /** Blanks but for one byte of the twenty. */
    private static int feedOneByte(ChannelSqueeze x, int at, int b) {
        int[] five = {BLANKS, BLANKS, BLANKS, BLANKS, BLANKS};
        int shift = 24 - 8 * (at % 4);
        five[at / 4] = five[at / 4] & ~(255 << shift) | b << shift;
        return x.feed(five[0], five[1], five[2], five[3], five[4]);
    }

    // ---- promise 1

    @Says("No TEXT.")
    static void p01NewObjectHasNoText() {
        for (Calls.Named taken : Calls.TAKEN) {
            Edges.refused(1, taken.name + " of a new object", Edges::fresh, taken.call);
        }
    }

    @Says("No TEXT.")
    static void p01NewObjectHasNeitherTapeNorTrouble() {
        ChannelSqueeze x = new ChannelSqueeze();
        Check.same("bytes()", x.bytes(), 0);
        Check.same("trouble()", x.trouble(), 0);
        Check.same("where()", x.where(), -1);
        Check.same("fault()", x.fault(), 0);
    }

    @Says("No TEXT.")
    static void p01ObjectsShareNothing() {
        ChannelSqueeze x = Edges.rich();
        ChannelSqueeze y = new ChannelSqueeze();
        Check.refuses(y, "about(1) of another object", y.about(1), 1);
        Check.same("bytes() of another object", y.bytes(), 0);
        Check.tell(y, Edges.ONE);
        y.value(0, 9);
        Check.text("the first object", Edges.all(x), Edges.all(Edges.rich()));
    }

    @Says("An object is used for at most 512 calls after it has been made; what later calls answer is free.")
    static void p01The512thCallAnswersStill() {
        ChannelSqueeze x = new ChannelSqueeze();
        Check.same("three feeds and a text", Check.tell(x, Edges.ONE), 1);
        for (int call = 5; call <= 511; call += 2) {
            boolean banned = (call - 5) / 2 % 2 == 0;
            Check.same("call " + call + ", ban(0, 1)", x.ban(0, 1), banned ? 1 : 0);
            Check.same("call " + (call + 1) + ", fits(1, 1)", x.fits(1, 1), banned ? 0 : 1);
        }
    }

    @Says("`NONE = -1`: There is none; refused.")
    static void p01NoneIsLessOne() {
        Check.same("NONE", ChannelSqueeze.NONE, -1);
    }

    // ---- promise 2

    @Says("Twenty bytes come behind THE TAPE")
    static void p02TwentyBytesComeAtEachCall() {
        ChannelSqueeze x = new ChannelSqueeze();
        for (int times = 1; times <= 35; times++) {
            Check.same("feed " + times, x.feed(times, 0, -1, Edges.MIN, Edges.MAX), 20 * times);
            Check.same("bytes() behind feed " + times, x.bytes(), 20 * times);
        }
    }

    @Says("Twenty bytes come behind THE TAPE")
    static void p02TheyComeBehindThoseThatAreThere() {
        for (int at = 0; at < 20; at++) {
            ChannelSqueeze x = new ChannelSqueeze();
            fill(x, 2);
            feedOneByte(x, at, '?');
            fill(x, 1);
            x.text(80);
            Check.same("the place of byte " + at + " of the third feed", x.where(), 40 + at);
        }
    }

    @Says("of each number the highest first")
    static void p02HighestByteFirst() {
        for (int b : new int[] {0, 1, '?', 127, 128, 255}) {
            for (int at = 0; at < 20; at++) {
                ChannelSqueeze x = new ChannelSqueeze();
                feedOneByte(x, at, b);
                x.text(20);
                Check.same("fault() of byte " + b + " at " + at, x.fault(), 1);
                Check.same("the place of byte " + b + " at " + at, x.where(), at);
            }
        }
    }

    @Says("of each number the highest first")
    static void p02BytesAbove127ComeAlone() {
        ChannelSqueeze x = new ChannelSqueeze();
        x.feed(0x20202063, 0x68616e6e, 0x656c7320, 0x39202020, 0x202020ff);
        x.text(19);
        Check.same("fault() ahead of a byte of 255", x.fault(), 5);
        x.feed(0x20202063, 0x68616e6e, 0x656c7320, 0x39ffffff, -1);
        x.text(20);
        Check.same("the place of the first byte of 255", x.where(), 13);
    }

    @Says("how many it has")
    static void p02ItTellsHowManyTheTapeHas() {
        ChannelSqueeze x = new ChannelSqueeze();
        fill(x, 3);
        x.text(61);
        Check.same("behind a text refused by 2", x.feed(0, 0, 0, 0, 0), 80);
        x.text(0);
        Check.same("behind a text refused by 4", x.feed(0, 0, 0, 0, 0), 20);
        x.text(20);
        Check.tell(x, Edges.ONE);
        Check.same("behind a text that was taken", x.feed(0, 0, 0, 0, 0), 20);
    }

    @Says("THE TAPE has 700 bytes")
    static void p02TheThirtyFifthFeedStillComes() {
        ChannelSqueeze x = new ChannelSqueeze();
        fill(x, 34);
        Check.same("feed 35", feedOneByte(x, 19, '?'), 700);
        x.text(700);
        Check.same("the last byte of the tape", x.where(), 699);
    }

    @Says("NONE, and none comes, if there would be more than 700")
    static void p02NoneComesBeyond700() {
        ChannelSqueeze x = new ChannelSqueeze();
        fill(x, 35);
        for (int times = 0; times < 3; times++) {
            Check.same("feed beyond 700", feedOneByte(x, 0, '?'), -1);
            Check.same("bytes() then", x.bytes(), 700);
        }
        x.text(700);
        Check.same("the tape is as it was, blanks up to its end", x.where(), 700);
        Check.same("there is room again", x.feed(0, 0, 0, 0, 0), 20);
    }

    @Says("(trouble() stays)")
    static void p02TroubleStaysBehindAFullTape() {
        ChannelSqueeze x = Check.told(Edges.ONE);
        fill(x, 35);
        Check.same("feed", x.feed(0, 0, 0, 0, 0), -1);
        Check.same("trouble() of a call that wasn't refused", x.trouble(), 0);
        x.on(99);
        Check.same("feed", x.feed(0, 0, 0, 0, 0), -1);
        Check.same("trouble() of a call refused by 2", x.trouble(), 2);
    }

    @Says("(trouble() stays)")
    static void p02TroubleStaysWhileThereIsRoom() {
        ChannelSqueeze x = new ChannelSqueeze();
        x.about(0);
        Check.same("feed", x.feed(0, 0, 0, 0, 0), 20);
        Check.same("trouble() of a call refused by 1", x.trouble(), 1);
        x.text(0);
        Check.same("feed", x.feed(0, 0, 0, 0, 0), 20);
        Check.same("trouble() of a text refused by 4", x.trouble(), 4);
        Check.same("where() of a text refused by 4", x.where(), 0);
        fill(x, 34);
        Check.same("feed beyond 700", x.feed(0, 0, 0, 0, 0), -1);
        Check.same("trouble() of that text still", x.trouble(), 4);
        Check.same("where() of that text still", x.where(), 0);
    }

    @Says("Twenty bytes come behind THE TAPE")
    static void p02TheTextStandsWhileBytesCome() {
        ChannelSqueeze x = Edges.rich();
        fill(x, 34);
        x.feed(-1, -1, -1, -1, -1);
        x.text(701);
        Check.gives(x, "stations", x.about(1), 3);
        Check.gives(x, "acts", x.about(8), 5);
        Check.isTrue("image 1", x.back(1));
    }

    // ---- promise 41

    @Says("Bytes of THE TAPE.")
    static void p41NoneAtFirst() {
        Check.same("bytes()", new ChannelSqueeze().bytes(), 0);
    }

    @Says("Bytes of THE TAPE.")
    static void p41UpTo700() {
        ChannelSqueeze x = new ChannelSqueeze();
        fill(x, 1);
        Check.same("bytes() behind one feed", x.bytes(), 20);
        Check.same("bytes() again", x.bytes(), 20);
        fill(x, 34);
        Check.same("bytes() of a full tape", x.bytes(), 700);
        fill(x, 1);
        Check.same("bytes() behind a feed of which none came", x.bytes(), 700);
    }

    @Says("Bytes of THE TAPE.")
    static void p41NoneBehindAText() {
        ChannelSqueeze x = new ChannelSqueeze();
        Check.feed(x, Edges.ONE);
        x.text(61);
        Check.same("bytes() behind a text refused by 2", x.bytes(), 60);
        x.text(-1);
        Check.same("bytes() behind a text refused by 2", x.bytes(), 60);
        x.text(10);
        Check.same("bytes() behind a text refused by 4", x.bytes(), 0);
        Check.tell(x, Edges.ONE);
        Check.same("bytes() behind a text that was taken", x.bytes(), 0);
    }
}
