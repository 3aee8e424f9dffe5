import java.util.NoSuchElementException;

/** Promises 1 to 5 and 40 to 42: the tape, texts and their faults, names, trouble. */
public final class TextTest {
    private static final String ONE = "channels 3;station a at 0 0 reach 1 on 1 worth 0";
    private static final String[] OWN = {"channels", "station", "at", "reach", "on", "worth", "not", "border"};

    public static void main(String[] args) {
        newObject();
        allIsRefusedWithoutText();
        feed();
        highestByteFirst();
        text();
        textMakesAllAnew();
        faultyTextChangesNothingElse();
        faultAndWhere();
        formOfTokens();
        formOfLines();
        bounds();
        toldAgain();
        tooMany();
        noStation();
        firstFaultIsTold();
        textsThatAreTaken();
        letter();
        bytes();
        trouble();
        Check.end();
    }

    private static void newObject() {
        ChannelSqueeze x = new ChannelSqueeze();
        Check.same("NONE", ChannelSqueeze.NONE, -1);
        Check.same("fault() of a new object", x.fault(), 0);
        Check.same("where() of a new object", x.where(), -1);
        Check.same("trouble() of a new object", x.trouble(), 0);
        Check.same("bytes() of a new object", x.bytes(), 0);
        for (int what = 0; what <= 8; what++) {
            Check.refuses(x, "about(" + what + ") of a new object", x.about(what), 1);
        }
    }

    private static void one(ChannelSqueeze x, String call, int got) {
        Check.refuses(x, call + " without a text", got, 1);
        x.text(-1);
    }

    private static void allIsRefusedWithoutText() {
        ChannelSqueeze x = new ChannelSqueeze();
        one(x, "station", x.station(0, 0));
        one(x, "border", x.border(0, 0));
        one(x, "far", x.far(0, 0));
        one(x, "near", x.near(0, 0));
        one(x, "on", x.on(99));
        one(x, "free", x.free(0));
        one(x, "fits", x.fits(0, 99));
        one(x, "rowOf", x.rowOf(1, 99, 0));
        one(x, "rows", x.rows(0, 99));
        one(x, "fewest", x.fewest(-1));
        one(x, "proof", x.proof(0, 99));
        one(x, "cheapest", x.cheapest(99, 0));
        one(x, "could", x.could(1, 99, 0));
        one(x, "clock", x.clock(99, -1, 0, 0));
        one(x, "pay", x.pay(99, -1, 0, 0));
        one(x, "squeeze", x.squeeze(99));
        one(x, "squeezeOf", x.squeezeOf(99, 0));
        one(x, "order", x.order(99, 0));
        one(x, "steps", x.steps(99, 0));
        one(x, "due", x.due(99, 0));
        one(x, "heard", x.heard(-1, 0, 0));
        one(x, "islands", x.islands(0));
        one(x, "lower", x.lower(0));
        one(x, "move", x.move(0, 99, true));
        one(x, "buy", x.buy(0, -1));
        one(x, "air", x.air(0));
        one(x, "lay", x.lay(99));
        one(x, "clear", x.clear(99, -1, 0));
        one(x, "value", x.value(0, -1));
        one(x, "ban", x.ban(0, 99));
        one(x, "undo", x.undo());
        one(x, "keep", x.keep(0) ? 1 : -1);
        one(x, "back", x.back(0) ? 1 : -1);
    }

    private static void feed() {
        ChannelSqueeze x = new ChannelSqueeze();
        for (int times = 1; times <= 35; times++) {
            Check.same("feed " + times, x.feed(0, 0, 0, 0, 0), 20 * times);
        }
        x.text(701);
        Check.same("feed of more than 700", x.feed(0, 0, 0, 0, 0), -1);
        Check.same("bytes() then", x.bytes(), 700);
        Check.same("trouble() stays", x.trouble(), 2);
    }

    private static void highestByteFirst() {
        ChannelSqueeze x = new ChannelSqueeze();
        x.feed(0x20202063, 0x68616e6e, 0x656c7320, 0x80202020, 0x7f202020);
        x.text(20);
        Check.same("a byte of 128 is found where it was fed", x.where(), 12);
        x.feed(0x63686180, 0, 0, 0, 0);
        x.text(3);
        Check.same("a lowest byte comes last", x.where(), 0);
        x.feed(0x20202080, 0, 0, 0, 0);
        x.text(4);
        Check.same("a fourth byte", x.where(), 3);
    }

    private static void text() {
        ChannelSqueeze x = new ChannelSqueeze();
        Check.feed(x, ONE);
        Check.refuses(x, "text(-1)", x.text(-1), 2);
        Check.refuses(x, "text(61) of 60", x.text(61), 2);
        Check.refuses(x, "text(MIN)", x.text(Integer.MIN_VALUE), 2);
        Check.same("the tape is as it was", x.bytes(), 60);
        Check.gives(x, "text(60)", x.text(60), 1);
        Check.same("the tape is empty then", x.bytes(), 0);
        Check.refuses(x, "text(1) of none", x.text(1), 2);
        Check.gives(x, "the text is still there", x.about(1), 1);

        Check.feed(x, ONE + ";station b at 1 1 reach 1 on 1 worth 1");
        Check.gives(x, "the first n bytes alone are the text", x.text(ONE.length()), 1);
        Check.same("all others are gone", x.bytes(), 0);

        Check.feed(x, ONE + "55 not 12");
        Check.gives(x, "the text ends within a whole", x.text(ONE.length() + 1), 1);
        Check.gives(x, "worth", x.station(0, 4), 5);
        Check.feed(x, ONE + " not 12");
        Check.gives(x, "the text ends within another whole", x.text(ONE.length() + 6), 1);
        Check.gives(x, "banned", x.station(0, 7), 1);
        Check.feed(x, "channels 3;station abc at 0 0");
        Check.same("the text ends within a word", x.text(21), -1);
        Check.same("where()", x.where(), 21);
        Check.feed(x, ONE + "?");
        Check.gives(x, "the text ends ahead of a fault", x.text(ONE.length()), 1);

        StringBuilder whole = new StringBuilder(ONE + ";station b at 1 1 reach 1 on 1 worth 1");
        while (whole.length() < 700) {
            whole.insert(8, ' ');
        }
        Check.gives(x, "a text of 700 bytes", Check.tell(x, whole.toString()), 2);
    }

    private static void textMakesAllAnew() {
        ChannelSqueeze x = Check.told(ONE);
        x.move(0, 2, true);
        x.value(0, 7);
        x.ban(0, 3);
        x.buy(0, 5);
        x.keep(0);
        x.keep(1);
        Check.same("a text again", Check.tell(x, ONE), 1);
        Check.gives(x, "channel", x.station(0, 3), 1);
        Check.gives(x, "worth", x.station(0, 4), 0);
        Check.gives(x, "on air", x.station(0, 5), 1);
        Check.gives(x, "banned", x.station(0, 7), 0);
        Check.gives(x, "paid", x.about(6), 0);
        Check.gives(x, "acts", x.about(8), 0);
        Check.refuses(x, "undo()", x.undo(), 5);
        Check.isTrue("image 0 is gone", !x.back(0));
        Check.isTrue("image 1 is gone", !x.back(1));
        Check.same("a lesser text", Check.tell(x, "channels 1;border at 9 9 reach 1 not 1;station q at 0 0 reach 1 on 1 worth 0"), 1);
        Check.gives(x, "fits(1, 1)", x.fits(1, 1), 1);
        Check.refuses(x, "channel 2 is no more", x.on(2), 2);
        Check.same("a text without border", Check.tell(x, ONE), 1);
        Check.gives(x, "borders are no more", x.about(2), 0);
        Check.gives(x, "list is whole", x.station(0, 6), 7);
    }

    private static void faultyTextChangesNothingElse() {
        ChannelSqueeze x = Check.told(ONE + " not 3;border at 50 50 reach 9 not 2");
        x.move(0, 2, true);
        x.keep(1);
        x.value(0, 7);
        String before = Check.state(x);
        Check.same("a faulty text", Check.tell(x, "channels 9;station z at 3 3 reach 3 on 9 worth 3 not 1,1"), -1);
        Check.same("its trouble", x.trouble(), 4);
        Check.same("its fault", x.fault(), 3);
        Check.same("the tape is empty", x.bytes(), 0);
        Check.isTrue("nothing else is changed", Check.state(x).equals(before.replaceFirst("0/0/", "0/3/")));
        Check.same("letter", x.letter(0, 0), 0);
        Check.gives(x, "undo()", x.undo(), 1);
        Check.isTrue("the image is there", x.back(1));
    }

    private static void faultAndWhere() {
        ChannelSqueeze x = new ChannelSqueeze();
        Check.tell(x, "channels 99");
        Check.same("fault()", x.fault(), 2);
        Check.same("where()", x.where(), 9);
        Check.same("where() again", x.where(), 9);
        x.feed(0, 0, 0, 0, 0);
        x.bytes();
        x.trouble();
        letterOrThrow(x, 0, 0);
        Check.same("where() stays behind calls that can't be refused", x.where(), 9);
        x.text(99);
        Check.same("where() behind another refusal", x.where(), -1);
        Check.same("fault() stays if a text is refused by 2", x.fault(), 2);
        x.text(0);
        Check.same("fault() of no bytes", x.fault(), 1);
        Check.same("where() of no bytes", x.where(), 0);
        Check.tell(x, ONE);
        Check.same("fault() of a good text", x.fault(), 0);
        Check.same("where() of a good text", x.where(), -1);
        Check.tell(x, "channels 3");
        Check.same("where() is told", x.where(), 10);
        x.about(0);
        Check.same("where() behind a call that was not refused", x.where(), -1);
        Check.same("fault() stays", x.fault(), 5);
    }

    /** The place of the fault is marked by | in the text. */
    private static void faulty(int fault, String marked) {
        int place = marked.indexOf('|');
        String text = marked.replace("|", "");
        ChannelSqueeze x = new ChannelSqueeze();
        Check.same("text() of " + marked, Check.tell(x, text), -1);
        Check.same("trouble() of " + marked, x.trouble(), 4);
        Check.same("fault() of " + marked, x.fault(), fault);
        Check.same("where() of " + marked, x.where(), place);
        Check.refuses(x, "no text is there", x.about(1), 1);
    }

    private static void taken(int stations, String text) {
        ChannelSqueeze x = new ChannelSqueeze();
        Check.gives(x, "text() of " + text, Check.tell(x, text), stations);
        Check.same("fault() of " + text, x.fault(), 0);
    }

    private static void formOfTokens() {
        faulty(1, "|");
        faulty(1, "   |");
        faulty(1, "|Channels 3");
        faulty(1, "|\tchannels 3");
        faulty(1, "channels 3|\n;station a at 0 0 reach 1 on 1 worth 0");
        faulty(1, "channels |-3");
        faulty(1, "channels |1000");
        faulty(1, "channels |0003");
        faulty(1, "|channelss 3");
        faulty(1, "|xhannels 3");
        faulty(1, "|channelx 3");
        faulty(1, "channels 3;|xtation a at 0 0 reach 1 on 1 worth 0");
        faulty(1, "channels 3|.");
        faulty(1, "channels 3;station a|\u00e9 at 0 0 reach 1 on 1 worth 0");
        faulty(1, "channels 3;station a at 0 0 reach 1 on 1 worth |1000");
        faulty(1, "channels 3;station |abcdefghi at 0 0 reach 1 on 1 worth 0");
        faulty(1, "channels 3;station a at 0 0 reach 1 on 1 worth 0|\u0000");
        faulty(1, "channels 3;station a|{");
        faulty(1, "channels 3;station a|`");
        faulty(1, "channels 3|/");
        faulty(1, "channels 3|:");
    }

    private static void formOfLines() {
        faulty(1, "|station a at 0 0 reach 1 on 1 worth 0");
        faulty(1, "|;channels 3");
        faulty(1, "|3");
        faulty(1, "channels|");
        faulty(1, "channels   |");
        faulty(1, "channels |x");
        faulty(1, "channels |;");
        faulty(1, "channels 3 |station");
        faulty(1, "channels 3 |4");
        faulty(1, "channels 3|,");
        faulty(1, "channels 3;|");
        faulty(1, "channels 3; |");
        faulty(1, "channels 3;|;");
        faulty(1, "channels 3;|foo");
        faulty(1, "channels 3;|at");
        faulty(1, "channels 3;|stationa");
        for (String own : OWN) {
            faulty(1, "channels 3;station |" + own + " at 0 0 reach 1 on 1 worth 0");
        }
        faulty(1, "channels 3;station |7 at 0 0 reach 1 on 1 worth 0");
        String[] tokens = {"station", "a", "at", "0", "0", "reach", "1", "on", "1", "worth", "0", "not", "1", ",", "2"};
        StringBuilder text = new StringBuilder("channels 3;");
        for (int i = 0; i < tokens.length; i++) {
            faulty(1, text + "|?");
            if (i != 0 && i != 11 && i != 13) {
                faulty(1, text + "|;");
                faulty(1, text + "  |");
            }
            faulty(1, text + (tokens[i].matches("[0-9]+") ? "|x" : "|5"));
            text.append(tokens[i]).append(' ');
        }
        faulty(1, text + "|not 3");
        faulty(1, text + "|3");
        faulty(1, ONE + "|,1");
        faulty(1, ONE + " |on");
        faulty(1, ONE + ";|");
        String border = ONE + ";border at 0 0 reach 1 not 1";
        faulty(1, ONE + ";border |a at 0 0 reach 1 not 1");
        faulty(1, ONE + ";border at 0 0 reach 1|");
        faulty(1, ONE + ";border at 0 0 reach 1|;");
        faulty(1, ONE + ";border at 0 0 reach 1 |on 1");
        faulty(1, ONE + ";border at 0 0 reach 1 not|");
        faulty(1, ONE + ";border at 0 0 reach 1 not |,");
        faulty(1, border + ",|");
        faulty(1, border + "|channels");
        faulty(1, border + ",|,2");
    }

    private static void bounds() {
        faulty(2, "channels |0;");
        faulty(2, "channels |11");
        faulty(2, "channels |000");
        faulty(2, "channels 3;station a at |100 0");
        faulty(2, "channels 3;station a at 0 |100");
        faulty(2, "channels 3;station a at 0 0 reach |0");
        faulty(2, "channels 3;station a at 0 0 reach |61");
        faulty(2, "channels 3;station a at 0 0 reach 1 on |0");
        faulty(2, "channels 3;station a at 0 0 reach 1 on |4");
        faulty(2, ONE + " not |0");
        faulty(2, ONE + " not |4");
        faulty(2, ONE + " not 1,|4");
        faulty(2, ONE + ";border at |100 0");
        faulty(2, ONE + ";border at 0 |100");
        faulty(2, ONE + ";border at 0 0 reach |0");
        faulty(2, ONE + ";border at 0 0 reach |61");
        faulty(2, ONE + ";border at 0 0 reach 1 not |0");
        faulty(2, ONE + ";border at 0 0 reach 1 not |4");
    }

    private static void toldAgain() {
        faulty(3, "channels 3;|channels 3");
        faulty(3, ONE + ";|channels 99");
        faulty(3, ONE + ";station |a at 0 0");
        faulty(3, ONE + ";station ab at 0 0 reach 1 on 1 worth 0;station b at 0 0 reach 1 on 1 worth 0;station |ab");
        faulty(3, ONE + " not 1,|1");
        faulty(3, ONE + " not 1,2,3,|002");
        faulty(3, ONE + ";border at 0 0 reach 1 not 2,|2");
    }

    private static String stations(int count) {
        StringBuilder text = new StringBuilder("channels 10");
        for (int s = 0; s < count; s++) {
            text.append(";station ").append((char) ('a' + s)).append(" at 0 0 reach 1 on 1 worth 0");
        }
        return text.toString();
    }

    private static String borders(int count) {
        StringBuilder text = new StringBuilder(ONE);
        for (int b = 0; b < count; b++) {
            text.append(";border at 0 0 reach 1 not 1");
        }
        return text.toString();
    }

    private static void tooMany() {
        taken(8, stations(8));
        faulty(4, stations(8) + ";|station");
        faulty(4, stations(8) + ";|station a at 100 0");
        faulty(1, stations(8) + ";|stations");
        taken(1, borders(4));
        faulty(4, borders(4) + ";|border");
        faulty(4, borders(4) + ";|border ?");
    }

    private static void noStation() {
        faulty(5, "channels 3|");
        faulty(5, "channels 3  |");
        faulty(5, "channels 3;border at 0 0 reach 1 not 1|");
        faulty(1, "channels 3;border at 0 0 reach 1 not|");
    }

    private static void firstFaultIsTold() {
        faulty(2, "channels |11 ?");
        faulty(1, "channels 3|? 11");
        faulty(2, "channels 3;station a at |100 100 reach 0");
        faulty(3, ONE + " not 1,|1,4");
        faulty(2, ONE + " not 1,|4,1");
        faulty(1, "|Abcdefghijk 1000");
    }

    private static void textsThatAreTaken() {
        taken(1, ONE);
        taken(1, "  channels   003 ;  station   a  at 0  0 reach 1 on 1 worth 0  ");
        taken(1, "channels3;station a at00 0reach1on1worth000not1,2,3");
        taken(1, "channels 10;station abcdefgh at 99 99 reach 60 on 10 worth 999 not 10 , 1");
        taken(2, ONE + ";border at 99 99 reach 60 not 3,2,1;station aa at 0 0 reach 1 on 1 worth 0");
        taken(1, "channels 1;border at 0 0 reach 1 not 1;station a at 0 0 reach 1 on 1 worth 0 not 1");
        taken(2, ONE + " not 1;station b at 0 0 reach 1 on 1 worth 0 not 1");
    }

    private static int letterOrThrow(ChannelSqueeze x, int s, int i) {
        try {
            return x.letter(s, i);
        } catch (NoSuchElementException e) {
            return -99;
        }
    }

    private static void letter() {
        ChannelSqueeze x = new ChannelSqueeze();
        Check.same("a letter without a text", letterOrThrow(x, 0, 0), -99);
        x = Check.told("channels 3;station azbcdefg at 0 0 reach 1 on 1 worth 0;station q at 0 0 reach 1 on 1 worth 0");
        int[] want = {0, 25, 1, 2, 3, 4, 5, 6};
        x.on(99);
        for (int i = 0; i < want.length; i++) {
            Check.same("letter " + i, letterOrThrow(x, 0, i), want[i]);
        }
        Check.same("letter of another", letterOrThrow(x, 1, 0), 16);
        Check.same("letter(0, 8)", letterOrThrow(x, 0, 8), -99);
        Check.same("letter(1, 1)", letterOrThrow(x, 1, 1), -99);
        Check.same("letter(0, -1)", letterOrThrow(x, 0, -1), -99);
        Check.same("letter(2, 0)", letterOrThrow(x, 2, 0), -99);
        Check.same("letter(-1, 0)", letterOrThrow(x, -1, 0), -99);
        Check.same("letter(MIN, MAX)", letterOrThrow(x, Integer.MIN_VALUE, Integer.MAX_VALUE), -99);
        Check.same("trouble() stays", x.trouble(), 2);
    }

    private static void bytes() {
        ChannelSqueeze x = new ChannelSqueeze();
        x.feed(1, 2, 3, 4, 5);
        Check.same("bytes()", x.bytes(), 20);
        x.text(21);
        Check.same("bytes() behind a text refused by 2", x.bytes(), 20);
        x.text(0);
        Check.same("bytes() behind a faulty text", x.bytes(), 0);
    }

    private static void trouble() {
        ChannelSqueeze x = Check.told(ONE);
        x.on(0);
        Check.same("trouble()", x.trouble(), 2);
        x.fault();
        x.where();
        x.bytes();
        x.feed(0, 0, 0, 0, 0);
        Check.same("trouble() stays behind calls that can't be refused", x.trouble(), 2);
        x.on(1);
        Check.same("trouble() of a call that was not refused", x.trouble(), 0);
        x.station(5, 0);
        Check.same("trouble() of none such", x.trouble(), 1);
        x.keep(0);
        Check.same("trouble() of keep()", x.trouble(), 0);
        x.undo();
        Check.same("trouble() of undo()", x.trouble(), 5);
        x.back(0);
        Check.same("trouble() of back()", x.trouble(), 0);
        x.back(1);
        Check.same("trouble() of back() to none", x.trouble(), 1);
    }
}
