import java.util.Arrays;
import java.util.List;

/** Promises 3 to 5 and 40, a sentence each: texts, their faults, names. */
public final class TextEdgeTest {
    private static final String ONE = Edges.ONE;
    private static final List<String> OWN = List.of("channels", "station", "at", "reach", "on", "worth", "not", "border");

    public static void main(String[] args) {
        Edges.run(TextEdgeTest.class);
    }

    private static String station(String name) {
        return ";station " + name + " at 0 0 reach 1 on 1 worth 0";
    }

    private static String stations(int count) {
        StringBuilder text = new StringBuilder("channels 3");
        for (int s = 0; s < count; s++) {
            text.append(station("" + (char) ('a' + s)));
        }
        return text.toString();
    }

    private static String borders(int count) {
        return ONE + ";border at 0 0 reach 1 not 1".repeat(count);
    }

    // ---- promise 3: what is taken for the text

    @Says("The first n bytes of THE TAPE (it is empty then) are THE TEXT")
    static void p03BytesBehindTheFirstAreNoneOfTheText() {
        ChannelSqueeze x = new ChannelSqueeze();
        Check.feed(x, ONE + station("b"));
        Check.gives(x, "the first line pair alone", x.text(ONE.length()), 1);
        Check.feed(x, ONE + "?");
        Check.gives(x, "ahead of a byte that begins no token", x.text(ONE.length()), 1);
        Check.feed(x, ONE + "99 not 1");
        Check.gives(x, "within a whole", x.text(ONE.length() + 1), 1);
        Check.gives(x, "worth", x.station(0, 4), 9);
        Check.feed(x, ONE + "0000");
        Check.gives(x, "ahead of a digit too many", x.text(ONE.length() + 2), 1);
        Check.feed(x, "channels 3;station abcdefghi");
        Check.same("ahead of a letter too many", x.text(27), -1);
        Check.same("its place is the end", x.where(), 27);
    }

    @Says("The first n bytes of THE TAPE (it is empty then) are THE TEXT")
    static void p03AllBytesOfAFullTape() {
        ChannelSqueeze x = new ChannelSqueeze();
        String text = ONE.substring(0, 10) + " ".repeat(700 - ONE.length()) + ONE.substring(10);
        Check.same("700 bytes", text.length(), 700);
        Check.gives(x, "text(700)", Check.tell(x, text), 1);
        Check.feed(x, text);
        Check.same("text(699)", x.text(699), -1);
        Check.same("the last byte is wanted", x.where(), 699);
    }

    @Says("(it is empty then)")
    static void p03TheTapeIsEmptyThen() {
        ChannelSqueeze x = new ChannelSqueeze();
        Check.feed(x, ONE + station("b"));
        x.text(ONE.length());
        Check.same("bytes()", x.bytes(), 0);
        Check.refuses(x, "text(1)", x.text(1), 2);
        Check.feed(x, "channels 9");
        x.text(20);
        Check.same("what is fed then stands at its begin", x.fault(), 5);
    }

    @Says("all is anew: how many STATIONS")
    static void p03ChannelsWorthsBansAndAirAreAnew() {
        ChannelSqueeze x = Edges.rich();
        x.text(0);
        Check.tell(x, Edges.THREE);
        ChannelSqueeze y = Check.told(Edges.THREE);
        Check.text("all", Edges.all(x), Edges.all(y));
    }

    /** All of a text of one station, one channel and no border is as it is told. */
    private static void isTheLeast(ChannelSqueeze x) {
        Check.gives(x, "channels", x.about(0), 1);
        Check.gives(x, "stations", x.about(1), 1);
        Check.gives(x, "borders", x.about(2), 0);
        Check.gives(x, "on air", x.about(3), 1);
        Check.gives(x, "list", x.station(0, 6), 1);
        Check.gives(x, "banned", x.station(0, 7), 0);
        Check.gives(x, "clash", x.near(0, 0), 0);
        Check.gives(x, "brush", x.near(0, 1), 0);
        Check.gives(x, "fits(1, 1)", x.fits(1, 1), 1);
        Check.refuses(x, "a set with one that is no more", x.fits(2, 1), 2);
        Check.refuses(x, "station 1 is no more", x.station(1, 0), 1);
        Check.refuses(x, "border 0 is no more", x.border(0, 0), 1);
        Check.refuses(x, "channel 2 is no more", x.on(2), 2);
        Check.same("a longer name is no more", Edges.letterOf(x, 0, 1), Edges.THROWN);
    }

    private static final String GREATER = "channels 10;station abcdefgh at 50 50 reach 60 on 10 worth 999 not 1,2,3;"
        + "station b at 50 50 reach 60 on 10 worth 999 not 1;station c at 50 50 reach 60 on 9 worth 9;border at 50 50 reach 60 not 1,2";
    private static final String LEAST = "channels 1;station q at 50 50 reach 1 on 1 worth 0";

    @Says("all is anew: how many STATIONS")
    static void p03ALesserTextLeavesNothingOfAGreater() {
        ChannelSqueeze x = Check.told(GREATER);
        Check.gives(x, "fits(7, 10)", x.fits(7, 10), 1);
        for (int times = 0; times < 3; times++) {
            Check.gives(x, "a lesser text", Check.tell(x, LEAST), 1);
            isTheLeast(x);
        }
    }

    @Says("all is anew: how many STATIONS")
    static void p03AFaultyTextLeavesNothingForTheNext() {
        ChannelSqueeze x = new ChannelSqueeze();
        for (int times = 0; times < 2; times++) {
            Check.same("a faulty text", Check.tell(x, GREATER + "?"), -1);
            Check.same("another one", Check.tell(x, "channels 3;border at 50 50 reach 9 not 1,1"), -1);
            Check.gives(x, "a lesser text", Check.tell(x, LEAST), 1);
            isTheLeast(x);
        }
    }

    @Says("all is anew: how many STATIONS")
    static void p03BordersOfOldTakeNothing() {
        String border = ";border at 0 0 reach 9 not ";
        ChannelSqueeze x = new ChannelSqueeze();
        for (boolean near : new boolean[] {true, false, false, true, true, false, true}) {
            Check.tell(x, near ? ONE + border + 3 : "channels 3;station a at 50 50 reach 1 on 1 worth 0" + border + 1);
            Check.gives(x, "the channels of the border", x.border(0, 3), near ? 4 : 1);
            Check.gives(x, "for whom it counts", x.border(0, 4), near ? 1 : 0);
            Check.gives(x, "list", x.station(0, 6), near ? 3 : 7);
        }
    }

    private static String inARow(int count, int apart) {
        StringBuilder text = new StringBuilder("channels 3");
        for (int s = 0; s < count; s++) {
            text.append(";station ").append((char) ('a' + s)).append(" at ").append(s * apart).append(" 0 reach 5 on 1 worth 0");
        }
        return text.toString();
    }

    @Says("all is anew: how many STATIONS")
    static void p03WhatFitsIsAnew() {
        ChannelSqueeze x = Check.told(inARow(8, 11));
        Check.gives(x, "neither clash nor brush: in 1", x.fits(3, 1), 1);
        Check.tell(x, inARow(8, 10));
        Check.gives(x, "clash: in 1", x.fits(3, 1), 0);
        Check.gives(x, "clash: in 2", x.fits(3, 2), 1);
        Check.tell(x, inARow(8, 5));
        Check.gives(x, "brush: in 2", x.fits(3, 2), 0);
        Check.tell(x, inARow(8, 10));
        Check.gives(x, "clash again: in 2", x.fits(3, 2), 1);
        Check.gives(x, "clash again: in 1", x.fits(3, 1), 0);
        Check.tell(x, inARow(8, 11));
        Check.gives(x, "neither again: in 1", x.fits(3, 1), 1);
    }

    @Says("all is anew: how many STATIONS")
    static void p03WhatFitsIsAnewWithFewerAndWithMoreStations() {
        ChannelSqueeze x = Check.told(inARow(8, 5));
        Check.gives(x, "eight that brush in 2", x.fits(255, 2), 0);
        for (int count : new int[] {1, 3, 8, 2, 7, 5, 8}) {
            Check.tell(x, inARow(count, 11));
            Check.gives(x, count + " that don't clash in 1", x.fits((1 << count) - 1, 1), 1);
        }
        Check.tell(x, inARow(8, 10));
        Check.gives(x, "eight that clash in 1", x.fits(255, 1), 0);
        Check.gives(x, "the last two of them in 1", x.fits(192, 1), 0);
    }

    @Says("all is anew: how many STATIONS")
    static void p03FromOneStationToEight() {
        Edges.taken(1, stations(1));
        Edges.taken(8, stations(8));
        Edges.taken(1, borders(4));
    }

    @Says("PAID is 0 at first.")
    static void p03PaidIsNoughtAgain() {
        ChannelSqueeze x = Check.told(ONE);
        Check.gives(x, "at first", x.about(6), 0);
        x.buy(0, 9);
        Check.tell(x, ONE);
        Check.gives(x, "behind another text", x.about(6), 0);
    }

    @Says("NONE: 2 (n); 4.")
    static void p03LessThanNoBytes() {
        Edges.refused(2, "text(-1)", Edges::rich, x -> x.text(-1));
        Edges.refused(2, "text(MIN)", Edges::rich, x -> x.text(Edges.MIN));
    }

    @Says("NONE: 2 (n); 4.")
    static void p03MoreThanTheTapeHas() {
        Edges.refused(2, "text(21) of 20", Edges::rich, x -> x.text(21));
        Edges.refused(2, "text(700) of 20", Edges::rich, x -> x.text(700));
        Edges.refused(2, "text(701) of 20", Edges::rich, x -> x.text(701));
        Edges.refused(2, "text(MAX) of 20", Edges::rich, x -> x.text(Edges.MAX));
        Edges.refused(2, "text(1) of none", Edges::fresh, x -> x.text(1));
    }

    @Says("NONE: 2 (n); 4.")
    static void p03NoBytesAreAFault() {
        ChannelSqueeze x = Edges.rich();
        Check.same("text(0) of 20", x.text(0), -1);
        Check.same("its trouble", x.trouble(), 4);
        ChannelSqueeze y = new ChannelSqueeze();
        Check.same("text(0) of none", y.text(0), -1);
        Check.same("its trouble", y.trouble(), 4);
    }

    @Says("What is refused changes nothing but trouble(), where(); by 4 THE TAPE (empty then), fault().")
    static void p03AFaultChangesTheTapeAndTheFaultAlone() {
        ChannelSqueeze x = Edges.rich();
        Check.same("text(20)", x.text(20), -1);
        Check.same("trouble()", x.trouble(), 4);
        Check.same("fault()", x.fault(), 1);
        Check.same("where()", x.where(), 9);
        Check.same("bytes()", x.bytes(), 0);
        ChannelSqueeze y = Edges.rich();
        String due = Edges.all(y).replace("20 bytes, fault 0", "0 bytes, fault 1").replaceFirst("tape .*", "tape -1 1 0");
        Check.text("all else", Edges.all(x), due);
    }

    @Says("What is refused changes nothing but trouble(), where(); by 4 THE TAPE (empty then), fault().")
    static void p03ALateFaultLeavesTheTextOfOld() {
        for (String late : new String[] {"channels 10;station z at 9 9 reach 60 on 10 worth 999 not 9;border at 9 9 reach 60 not 1,1",
            stations(8) + ";station", borders(4) + ";border", "channels 1;border at 0 0 reach 60 not 1"}) {
            ChannelSqueeze x = Edges.rich();
            x.text(0);
            Check.same("text() of " + late, Check.tell(x, late), -1);
            ChannelSqueeze y = Edges.rich();
            String due = Edges.all(y).replace("20 bytes, fault 0", "0 bytes, fault " + x.fault()).replaceFirst("tape .*", "tape -1 1 0");
            Check.text("all behind " + late, Edges.all(x), due);
        }
    }

    // ---- promise 3: tokens

    @Says("blanks, 32, part TOKENS and mean nothing else")
    static void p03BlanksMeanNothing() {
        Edges.taken(1, "   channels   3   ;   station   a   at   0   0   reach   1   on   1   worth   0   not   1   ,   2   ");
        Edges.taken(1, "channels3;station a at0 0reach1on1worth0not1,2");
    }

    @Says("blanks, 32, part TOKENS and mean nothing else")
    static void p03BlanksPart() {
        Edges.faulty(1, "|chan nels 3");
        Edges.faulty(1, "channels 1 |0;station a at 0 0 reach 1 on 1 worth 0");
        Edges.faulty(1, "channels 3;station a |b at 0 0 reach 1 on 1 worth 0");
        ChannelSqueeze x = Edges.taken(1, "channels 3;station a at 1 2 reach 1 on 1 worth 0");
        Check.gives(x, "x", x.station(0, 0), 1);
        Check.gives(x, "y", x.station(0, 1), 2);
        Edges.faulty(1, "channels 3;station a at 12 |reach 1 on 1 worth 0");
    }

    @Says("WORDS of 1 to 8 small letters that stand together")
    static void p03WordsOfOneAndOfEightLetters() {
        Edges.taken(1, "channels 3" + station("z"));
        Edges.taken(1, "channels 3" + station("abcdefgh"));
        Edges.faulty(1, "channels 3;station |abcdefghi at 0 0 reach 1 on 1 worth 0");
    }

    @Says("WORDS of 1 to 8 small letters that stand together")
    static void p03EverySmallLetterIsOne() {
        for (char c = 'a'; c <= 'z'; c++) {
            ChannelSqueeze x = Edges.taken(1, "channels 3" + station(c + "x" + c));
            Check.same("letter " + c, x.letter(0, 2), c - 'a');
        }
    }

    @Says("WORDS of 1 to 8 small letters that stand together")
    static void p03NoOtherByteIsALetter() {
        for (char c : new char[] {'A', 'Z', '`', '{', '_', 128, 225, 255}) {
            Edges.faulty(1, "channels 3;station a|" + c + " at 0 0 reach 1 on 1 worth 0");
        }
    }

    @Says("WHOLES of 1 to 3 digits that do")
    static void p03WholesOfOneAndOfThreeDigits() {
        ChannelSqueeze x = Edges.taken(1, "channels 003;station a at 5 05 reach 006 on 02 worth 070 not 003,1");
        int[] want = {5, 5, 6, 2, 70, 1, 2, 5};
        for (int what = 0; what < want.length; what++) {
            Check.gives(x, "station(0, " + what + ")", x.station(0, what), want[what]);
        }
        Edges.faulty(1, "channels |0003");
        Edges.faulty(1, "channels 3;station a at |0000 0 reach 1 on 1 worth 0");
    }

    @Says("WHOLES of 1 to 3 digits that do")
    static void p03EveryDigitCounts() {
        for (int worth : new int[] {0, 9, 10, 99, 100, 123, 456, 789, 909, 990, 999}) {
            ChannelSqueeze x = Edges.taken(1, "channels 3;station a at 0 0 reach 1 on 1 worth " + worth);
            Check.gives(x, "worth", x.station(0, 4), worth);
        }
        for (char c : new char[] {'/', ':', '-', '+', '.', 178}) {
            Edges.faulty(1, ONE + "|" + c);
        }
    }

    @Says("single ones of ; ,")
    static void p03SignsStandAlone() {
        Edges.faulty(1, "channels 3;|;station a at 0 0 reach 1 on 1 worth 0");
        Edges.faulty(1, ONE + " not 1,|,2");
        Edges.faulty(1, ONE + " not 1,|;");
        Edges.faulty(1, ONE + " not 1;|,");
        Edges.taken(1, ONE + " not 1 , 2,3");
    }

    // ---- promise 3: lines

    @Says("LINE {; LINE}")
    static void p03LinesArePartedBySemicolons() {
        Edges.faulty(1, "|;" + ONE);
        Edges.faulty(1, ONE + ";|");
        Edges.faulty(1, ONE + " |station b at 0 0 reach 1 on 1 worth 0");
        Edges.faulty(1, "channels 3|,station a at 0 0 reach 1 on 1 worth 0");
        Edges.taken(2, ONE + " ;  station b at 0 0 reach 1 on 1 worth 0");
    }

    @Says("channels WHOLE (CHANNELS 1 .. so many, 1 .. 10; the first LINE, and that alone)")
    static void p03FromOneChannelToTen() {
        Edges.faulty(2, "channels |0" + station("a"));
        ChannelSqueeze one = Edges.taken(1, "channels 1" + station("a"));
        Check.gives(one, "channels", one.about(0), 1);
        ChannelSqueeze ten = Edges.taken(1, "channels 10" + station("a"));
        Check.gives(ten, "channels", ten.about(0), 10);
        Edges.faulty(2, "channels |11" + station("a"));
        Edges.faulty(2, "channels |999");
    }

    @Says("channels WHOLE (CHANNELS 1 .. so many, 1 .. 10; the first LINE, and that alone)")
    static void p03ChannelsIsTheFirstLineAndThatAlone() {
        Edges.faulty(1, "|station a at 0 0 reach 1 on 1 worth 0;channels 3");
        Edges.faulty(1, "|border at 0 0 reach 1 not 1;channels 3");
        Edges.faulty(3, ONE + ";|channels 3");
    }

    @Says("(a STATION; up to 8, numbered from 0: X, Y 0 .. 99; REACH 1 .. 60; its CHANNEL; WORTH 0 .. 999; BANNED CHANNELS, each once)")
    static void p03StationsAreNumberedFromNought() {
        ChannelSqueeze x = Edges.taken(8, "channels 3;border at 0 0 reach 1 not 1" + station("h") + station("g") + station("f")
            + ";border at 0 0 reach 1 not 1" + station("e") + station("d") + station("c") + station("b") + station("a"));
        for (int s = 0; s < 8; s++) {
            Check.same("the name of station " + s, x.letter(s, 0), 7 - s);
        }
        Check.refuses(x, "station(8, 0)", x.station(8, 0), 1);
    }

    private static void within(String head, int least, int most, String tail, int what) {
        for (int v : new int[] {least, most}) {
            ChannelSqueeze x = Edges.taken(1, head + v + tail);
            Check.gives(x, head + v + tail, x.station(0, what), v);
        }
        if (least > 0) {
            Edges.faulty(2, head + "|" + (least - 1) + tail);
        }
        Edges.faulty(most == 999 ? 1 : 2, head + "|" + (most + 1) + tail);
    }

    @Says("X, Y 0 .. 99")
    static void p03PlacesFromNoughtTo99() {
        within("channels 3;station a at ", 0, 99, " 5 reach 1 on 1 worth 0", 0);
        within("channels 3;station a at 5 ", 0, 99, " reach 1 on 1 worth 0", 1);
    }

    @Says("REACH 1 .. 60")
    static void p03ReachesFromOneTo60() {
        within("channels 3;station a at 0 0 reach ", 1, 60, " on 1 worth 0", 2);
    }

    @Says("its CHANNEL")
    static void p03ItsChannelIsOneOfThoseTold() {
        for (int all : new int[] {1, 3, 10}) {
            within("channels " + all + ";station a at 0 0 reach 1 on ", 1, all, " worth 0", 3);
        }
    }

    @Says("WORTH 0 .. 999")
    static void p03WorthsFromNoughtTo999() {
        within("channels 3;station a at 0 0 reach 1 on 1 worth ", 0, 999, "", 4);
    }

    @Says("BANNED CHANNELS, each once")
    static void p03FromNoBanToAll() {
        ChannelSqueeze none = Edges.taken(1, ONE);
        Check.gives(none, "no ban", none.station(0, 7), 0);
        ChannelSqueeze all = Edges.taken(1, "channels 10;station a at 0 0 reach 1 on 1 worth 0 not 10,9,8,7,6,5,4,3,2,1");
        Check.gives(all, "all are banned", all.station(0, 7), 1023);
        Edges.faulty(1, ONE + " not|");
        Edges.faulty(1, ONE + " not |;");
    }

    @Says("station NAME at WHOLE WHOLE reach WHOLE on WHOLE worth WHOLE [not WHOLE {, WHOLE}]")
    static void p03NotMayBeLeftOutOfAStation() {
        ChannelSqueeze x = Edges.taken(2, ONE + station("b") + " not 3");
        Check.gives(x, "banned for a", x.station(0, 7), 0);
        Check.gives(x, "banned for b", x.station(1, 7), 4);
        Edges.faulty(1, ONE + " not 1 |not 2");
    }

    @Says("border at WHOLE WHOLE reach WHOLE not WHOLE {, WHOLE} (up to 4: X, Y, REACH likewise; CHANNELS, each once)")
    static void p03BordersAreBoundLikewise() {
        ChannelSqueeze x = Edges.taken(1, "channels 10;border at 99 0 reach 60 not 10;border at 0 99 reach 1 not 1;"
            + "border at 0 0 reach 1 not 1,10;border at 99 99 reach 60 not 3,2" + station("a"));
        int[][] want = {{99, 0, 60, 512}, {0, 99, 1, 1}, {0, 0, 1, 513}, {99, 99, 60, 6}};
        for (int b = 0; b < 4; b++) {
            for (int what = 0; what < 4; what++) {
                Check.gives(x, "border(" + b + ", " + what + ")", x.border(b, what), want[b][what]);
            }
        }
        Edges.faulty(2, ONE + ";border at |100 0 reach 1 not 1");
        Edges.faulty(2, ONE + ";border at 0 |100 reach 1 not 1");
        Edges.faulty(2, ONE + ";border at 0 0 reach |0 not 1");
        Edges.faulty(2, ONE + ";border at 0 0 reach |61 not 1");
        Edges.faulty(2, ONE + ";border at 0 0 reach 1 not |0");
        Edges.faulty(2, ONE + ";border at 0 0 reach 1 not |4");
        Edges.faulty(2, ONE + ";border at 0 0 reach 1 not 1,2,3,|4");
    }

    @Says("border at WHOLE WHOLE reach WHOLE not WHOLE {, WHOLE} (up to 4: X, Y, REACH likewise; CHANNELS, each once)")
    static void p03NotMayNotBeLeftOutOfABorder() {
        Edges.faulty(1, ONE + ";border at 0 0 reach 1|");
        Edges.faulty(1, ONE + ";border at 0 0 reach 1|;station b");
        Edges.faulty(1, ONE + ";border at 0 0 reach 1 not|");
        Edges.faulty(1, ONE + ";border at 0 0 reach 1 not 1,|");
    }

    @Says("A NAME is a WORD but channels, station, at, reach, on, worth, not, border")
    static void p03EightWordsAreNoNames() {
        for (String own : OWN) {
            Edges.faulty(1, "channels 3;station |" + own + " at 0 0 reach 1 on 1 worth 0");
            Edges.taken(1, "channels 3" + station(own.substring(1)));
            Edges.taken(1, "channels 3" + station((own + "x").substring(own.length() == 8 ? 1 : 0)));
        }
    }

    @Says("each told once")
    static void p03NamesThatDifferByALetterAreTwo() {
        Edges.taken(4, "channels 3" + station("ab") + station("a") + station("abc") + station("ba"));
        Edges.taken(2, "channels 3" + station("abcdefgh") + station("abcdefgi"));
        Edges.faulty(3, "channels 3" + station("ab") + station("a") + ";station |ab at 0 0 reach 1 on 1 worth 0");
        Edges.faulty(3, "channels 3" + station("abcdefgh") + ";station |abcdefgh at 0 0 reach 1 on 1 worth 0");
    }

    // ---- promise 4: which fault

    @Says("The FAULT of the latest text() not refused by 2; 0 without one, ahead of any.")
    static void p04NoughtAheadOfAny() {
        ChannelSqueeze x = new ChannelSqueeze();
        Check.same("fault() of a new object", x.fault(), 0);
        x.text(1);
        Check.same("fault() behind a text refused by 2", x.fault(), 0);
        x.about(0);
        Check.same("fault() behind another call", x.fault(), 0);
    }

    @Says("The FAULT of the latest text() not refused by 2; 0 without one, ahead of any.")
    static void p04NoughtOfATextWithoutOne() {
        ChannelSqueeze x = new ChannelSqueeze();
        x.text(0);
        Check.same("fault() of a text with one", x.fault(), 1);
        Check.tell(x, ONE);
        Check.same("fault() of a text without one", x.fault(), 0);
    }

    @Says("The FAULT of the latest text() not refused by 2; 0 without one, ahead of any.")
    static void p04ItStaysBehindATextRefusedBy2() {
        ChannelSqueeze x = new ChannelSqueeze();
        Check.tell(x, "channels 11");
        x.text(-1);
        x.text(1);
        Check.same("fault()", x.fault(), 2);
        Check.tell(x, ONE);
        x.text(1);
        Check.same("fault() of a text without one", x.fault(), 0);
    }

    @Says("The FAULT of the latest text() not refused by 2; 0 without one, ahead of any.")
    static void p04ItStaysBehindOtherCalls() {
        ChannelSqueeze x = Check.told(ONE);
        Check.tell(x, "channels 3");
        x.on(1);
        x.on(99);
        x.move(0, 2, true);
        x.keep(0);
        x.back(0);
        x.feed(0, 0, 0, 0, 0);
        Check.same("fault()", x.fault(), 5);
        Check.same("fault() again", x.fault(), 5);
    }

    @Says("Told is the first TOKEN, from the left, at which one is found")
    static void p04TheFirstTokenIsTold() {
        Edges.faulty(2, "channels |11 ?");
        Edges.faulty(1, "channels 3|? 11");
        Edges.faulty(2, "channels 3;station a at |100 100 reach 0");
        Edges.faulty(3, ONE + " not 1,|1,4");
        Edges.faulty(2, ONE + " not 1,|4,1");
        Edges.faulty(2, "channels 3;station a at 0 0 reach 1 on |4 worth 1000");
        Edges.faulty(4, stations(8) + ";|station a at 100 ?");
        Edges.faulty(3, "channels 3;|channels 11;foo");
        Edges.faulty(1, "channels 3;|foo;channels 11");
    }

    @Says("of one TOKEN the least number")
    static void p04OfOneTokenTheLeastNumber() {
        Edges.faulty(1, "channels 3;|");
        Edges.faulty(1, "channels 3;border at 0 0 reach 1 not|");
        Edges.faulty(1, "channels |1000");
        Edges.faulty(1, "channels 3;station a at |1000 0 reach 1 on 1 worth 0");
        Edges.faulty(1, ONE + " not 1,|0001");
    }

    @Says("1 FORM: a byte that begins no TOKEN")
    static void p04EveryByteThatBeginsNoToken() {
        for (char c = 0; c < 256; c++) {
            boolean begins = c >= 'a' && c <= 'z' || c >= '0' && c <= '9' || c == ';' || c == ',';
            if (c != ' ' && !begins) {
                ChannelSqueeze x = new ChannelSqueeze();
                Check.same("byte " + (int) c + " behind a text", Check.tell(x, ONE + c), -1);
                Check.same("fault() of byte " + (int) c, x.fault(), 1);
                Check.same("where() of byte " + (int) c, x.where(), ONE.length());
                Check.same("byte " + (int) c + " ahead of a text", Check.tell(x, c + ONE), -1);
                Check.same("where() of byte " + (int) c, x.where(), 0);
            }
        }
    }

    @Says("letters or digits too many that stand together (at the first of these)")
    static void p04LettersTooMany() {
        Edges.faulty(1, "channels 3;station |abcdefghi at");
        Edges.faulty(1, "channels 3;station |" + "z".repeat(600));
        Edges.faulty(1, "|channelss 3");
        Edges.faulty(1, "channels 3;|stationst a at");
        Edges.faulty(1, ONE + " |notnotnot 1");
    }

    @Says("letters or digits too many that stand together (at the first of these)")
    static void p04DigitsTooMany() {
        Edges.faulty(1, "channels |0001");
        Edges.faulty(1, "channels |" + "0".repeat(600));
        // as many digits as make a number wrap around to one within bounds
        Edges.faulty(1, "channels |4294967297" + station("a"));
        Edges.faulty(1, "channels 3;station a at 0 0 reach 1 on 1 worth |1000");
        Edges.faulty(1, ONE + " not |0002");
    }

    /** What may stand next behind what stands ahead; END: the text may be over. */
    private static void goesOn(String ahead, String... may) {
        List<String> allowed = Arrays.asList(may);
        for (String token : List.of("channels", "station", "at", "reach", "on", "worth", "not", "border", "x", "1", ";", ",")) {
            ChannelSqueeze x = new ChannelSqueeze();
            Check.tell(x, ahead + " " + token);
            boolean stopped = x.where() == ahead.length() + 1;
            Check.isTrue(token + " goes on behind " + ahead, stopped != allowed.contains(token));
            boolean again = token.equals("channels") && ahead.endsWith(";");
            Check.isTrue("fault of " + token + " behind " + ahead, !stopped || x.fault() == (again ? 3 : 1));
        }
        ChannelSqueeze x = new ChannelSqueeze();
        Check.tell(x, ahead);
        Check.same("the end behind " + ahead, x.fault() == 1 ? x.where() : -1, allowed.contains("END") ? -1 : ahead.length());
    }

    @Says("a TOKEN with which no TEXT goes on")
    static void p04TokensWithWhichNoStationGoesOn() {
        goesOn("", "channels");
        goesOn("channels", "1");
        goesOn("channels 3", ";", "END");
        goesOn("channels 3;", "station", "border");
        String text = "channels 3;station";
        goesOn(text, "x");
        goesOn(text += " a", "at");
        goesOn(text += " at", "1");
        goesOn(text += " 2", "1");
        goesOn(text += " 3", "reach");
        goesOn(text += " reach", "1");
        goesOn(text += " 4", "on");
        goesOn(text += " on", "1");
        goesOn(text += " 2", "worth");
        goesOn(text += " worth", "1");
        goesOn(text += " 5", "not", ";", "END");
        goesOn(text + ";", "station", "border");
        goesOn(text += " not", "1");
        goesOn(text += " 2", ",", ";", "END");
        goesOn(text + ";", "station", "border");
        goesOn(text += ",", "1");
        goesOn(text + " 3", ",", ";", "END");
    }

    @Says("a TOKEN with which no TEXT goes on")
    static void p04TokensWithWhichNoBorderGoesOn() {
        String text = ONE + ";border";
        goesOn(text, "at");
        goesOn(text += " at", "1");
        goesOn(text += " 2", "1");
        goesOn(text += " 3", "reach");
        goesOn(text += " reach", "1");
        goesOn(text += " 4", "not");
        goesOn(text += " not", "1");
        goesOn(text += " 2", ",", ";", "END");
        goesOn(text + ";", "station", "border");
        goesOn(text += ",", "1");
        goesOn(text + " 3", ",", ";", "END");
    }

    @Says("also a first WORD that isn't channels")
    static void p04AFirstWordThatIsNotChannels() {
        for (String word : List.of("station", "border", "channel", "xhannels", "channelx", "cyannels", "a", "at", "not")) {
            Edges.faulty(1, "|" + word + " 3");
            Edges.faulty(1, "  |" + word + " 3");
        }
    }

    @Says("the end: how many bytes there are")
    static void p04TheEndIsHowManyBytesThereAre() {
        Edges.faulty(1, "|");
        Edges.faulty(1, " |");
        Edges.faulty(1, "channels|");
        Edges.faulty(1, "channels  |");
        Edges.faulty(5, "channels 3|");
        Edges.faulty(5, "channels 3     |");
        Edges.faulty(1, "channels 3 ;  |");
        Edges.faulty(1, "channels 3;station a at 0 0 reach 1 on 1 worth  |");
        ChannelSqueeze x = new ChannelSqueeze();
        Check.feed(x, "channels");
        x.text(20);
        Check.same("blanks of the text count", x.where(), 20);
        Check.feed(x, "channels");
        x.text(9);
        Check.same("those of the tape behind it don't", x.where(), 9);
    }

    @Says("2 a WHOLE that isn't within its bounds (a CHANNEL: one of those told)")
    static void p04AWholeThatIsNotWithinItsBounds() {
        Edges.faulty(2, "channels |11");
        Edges.faulty(2, "channels |000");
        Edges.faulty(2, "channels 3;station a at |100");
        Edges.faulty(2, "channels 3;station a at 0 |999");
        Edges.faulty(2, "channels 3;station a at 0 0 reach |0");
        Edges.faulty(2, "channels 3;station a at 0 0 reach |61");
        Edges.faulty(2, ONE + ";border at |100");
        Edges.faulty(2, ONE + ";border at 0 0 reach |000");
    }

    @Says("(a CHANNEL: one of those told)")
    static void p04AChannelIsOneOfThoseTold() {
        for (int all : new int[] {1, 3, 10}) {
            String head = "channels " + all + ";station a at 0 0 reach 1 on ";
            Edges.faulty(2, head + "|0");
            Edges.faulty(2, head + "|" + (all + 1));
            Edges.faulty(2, head + "1 worth 0 not |0");
            Edges.faulty(2, head + "1 worth 0 not |" + (all + 1));
            Edges.faulty(2, head + "1 worth 0;border at 0 0 reach 1 not |0");
            Edges.faulty(2, head + "1 worth 0;border at 0 0 reach 1 not |" + (all + 1));
            Edges.taken(1, head + all + " worth 0 not " + all + ";border at 0 0 reach 1 not " + all);
        }
        Edges.faulty(2, ONE + " not |33");
    }

    @Says("3 a NAME told again")
    static void p04ANameToldAgain() {
        Edges.faulty(3, ONE + ";station |a");
        Edges.faulty(3, stations(7) + ";station |a at 0 0");
        Edges.faulty(3, stations(7) + ";station |g at 0 0");
        Edges.taken(8, stations(7) + station("h"));
    }

    @Says("a CHANNEL behind not a second time")
    static void p04AChannelBehindNotASecondTime() {
        Edges.faulty(3, ONE + " not 1,|1");
        Edges.faulty(3, ONE + " not 3,2,1,|003");
        Edges.faulty(3, ONE + ";border at 0 0 reach 1 not 2,|2");
        Edges.faulty(3, ONE + ";border at 0 0 reach 1 not 2,1,|02");
    }

    @Says("a CHANNEL behind not a second time")
    static void p04BehindAnotherNotItIsTheFirstTime() {
        Edges.taken(2, ONE + " not 1" + station("b") + " not 1;border at 0 0 reach 1 not 1;border at 0 0 reach 1 not 1");
    }

    @Says("channels again, at that WORD")
    static void p04ChannelsAgain() {
        Edges.faulty(3, "channels 3;|channels");
        Edges.faulty(3, "channels 3;|channels 3");
        Edges.faulty(3, ONE + " not 1;|channels ?");
        Edges.faulty(3, stations(8) + ";|channels 3");
        Edges.faulty(1, "channels 3 |channels");
        Edges.faulty(1, "channels |channels");
        Edges.faulty(1, ONE + " |channels 3");
    }

    @Says("4 a ninth station, a fifth border, at that WORD.")
    static void p04ANinthStation() {
        Edges.taken(8, stations(8));
        Edges.taken(8, stations(8) + " not 1;border at 0 0 reach 1 not 1");
        Edges.faulty(4, stations(8) + ";|station");
        Edges.faulty(4, stations(8) + ";|station a at 100");
        Edges.faulty(4, stations(8) + ";border at 0 0 reach 1 not 1;|station i");
        Edges.faulty(1, stations(8) + ";|stations");
    }

    @Says("4 a ninth station, a fifth border, at that WORD.")
    static void p04AFifthBorder() {
        Edges.taken(1, borders(4));
        Edges.taken(2, borders(4) + station("b"));
        Edges.faulty(4, borders(4) + ";|border");
        Edges.faulty(4, borders(4) + ";|border at 0 0 reach 1 not 1");
        Edges.faulty(4, borders(4) + station("b") + ";|border ?");
        Edges.faulty(1, borders(4) + ";|borders");
    }

    @Says("5 at the end: no station.")
    static void p04NoStation() {
        Edges.faulty(5, "channels 3|");
        Edges.faulty(5, "channels 3  |");
        Edges.faulty(5, "channels 3;border at 0 0 reach 1 not 1|");
        Edges.faulty(5, "channels 3;border at 0 0 reach 1 not 1,2;border at 0 0 reach 1 not 1 |");
        Edges.faulty(1, "channels 3;border at 0 0 reach 1|");
    }

    // ---- promise 5

    @Says("Its place, if the latest call that may be refused was by 4; NONE else.")
    static void p05NoneAheadOfAnyCall() {
        Check.same("where() of a new object", new ChannelSqueeze().where(), -1);
    }

    @Says("Its place, if the latest call that may be refused was by 4; NONE else.")
    static void p05ThePlaceFromNoughtTo700() {
        ChannelSqueeze x = new ChannelSqueeze();
        x.text(0);
        Check.same("where() of no bytes", x.where(), 0);
        Check.same("where() again", x.where(), 0);
        Check.tell(x, " ".repeat(700));
        Check.same("where() of 700 blanks", x.where(), 700);
        Check.tell(x, " ".repeat(699) + "?");
        Check.same("where() of the last byte", x.where(), 699);
    }

    @Says("Its place, if the latest call that may be refused was by 4; NONE else.")
    static void p05NoneBehindACallThatWasNotRefused() {
        for (Calls.Named taken : Calls.TAKEN) {
            ChannelSqueeze x = Edges.rich();
            x.text(20);
            Check.same("where() of the fault", x.where(), 9);
            Check.isTrue(taken.name + " is taken", taken.call.on(x) != -1);
            Check.same("where() behind " + taken.name, x.where(), -1);
        }
        ChannelSqueeze x = Edges.rich();
        x.text(20);
        Check.tell(x, ONE);
        Check.same("where() behind a text that was taken", x.where(), -1);
    }

    @Says("Its place, if the latest call that may be refused was by 4; NONE else.")
    static void p05NoneBehindACallRefusedOtherwise() {
        for (Calls.Named taken : Calls.TAKEN) {
            ChannelSqueeze x = new ChannelSqueeze();
            x.text(0);
            Check.same(taken.name + " without a text", taken.call.on(x), -1);
            Check.same("where() behind " + taken.name, x.where(), -1);
        }
        ChannelSqueeze x = new ChannelSqueeze();
        x.text(0);
        x.text(1);
        Check.same("where() behind a text refused by 2", x.where(), -1);
    }

    @Says("Its place, if the latest call that may be refused was by 4; NONE else.")
    static void p05ItStaysBehindCallsThatCannotBeRefused() {
        ChannelSqueeze x = new ChannelSqueeze();
        Check.tell(x, "channels ?");
        x.feed(0, 0, 0, 0, 0);
        x.fault();
        x.bytes();
        x.trouble();
        Edges.letterOf(x, 0, 0);
        Check.same("where()", x.where(), 9);
        Check.same("trouble()", x.trouble(), 4);
    }

    // ---- promise 40

    @Says("Letter i (0 a, ..) of the NAME of a STATION.")
    static void p40LettersFromAToZ() {
        ChannelSqueeze x = Check.told("channels 3" + station("azbycxdw") + station("q"));
        int[] want = {0, 25, 1, 24, 2, 23, 3, 22};
        for (int i = 0; i < 8; i++) {
            Check.same("letter(0, " + i + ")", Edges.letterOf(x, 0, i), want[i]);
        }
        Check.same("letter(1, 0)", Edges.letterOf(x, 1, 0), 16);
    }

    @Says("NoSuchElementException if there is none such.")
    static void p40NoSuchLetter() {
        ChannelSqueeze x = Check.told("channels 3" + station("abcdefgh") + station("q"));
        Check.same("letter(0, 8)", Edges.letterOf(x, 0, 8), Edges.THROWN);
        Check.same("letter(1, 1)", Edges.letterOf(x, 1, 1), Edges.THROWN);
        for (int i : new int[] {-1, 9, Edges.MIN, Edges.MAX}) {
            Check.same("letter(0, " + i + ")", Edges.letterOf(x, 0, i), Edges.THROWN);
        }
    }

    @Says("NoSuchElementException if there is none such.")
    static void p40NoSuchStation() {
        ChannelSqueeze x = Check.told("channels 3" + station("abcdefgh") + station("q"));
        for (int s : new int[] {-1, 2, 8, Edges.MIN, Edges.MAX}) {
            Check.same("letter(" + s + ", 0)", Edges.letterOf(x, s, 0), Edges.THROWN);
        }
    }

    @Says("NoSuchElementException if there is none such.")
    static void p40NoText() {
        Check.same("letter(0, 0)", Edges.letterOf(new ChannelSqueeze(), 0, 0), Edges.THROWN);
        ChannelSqueeze x = new ChannelSqueeze();
        Check.tell(x, "channels 3" + station("a") + " ?");
        Check.same("letter(0, 0) behind a fault", Edges.letterOf(x, 0, 0), Edges.THROWN);
    }

    @Says("NoSuchElementException if there is none such.")
    static void p40NamesOfOldAreNoMore() {
        ChannelSqueeze x = Check.told("channels 3" + station("abcdefgh") + station("q"));
        Check.tell(x, "channels 3" + station("zy"));
        Check.same("letter(0, 1)", Edges.letterOf(x, 0, 1), 24);
        Check.same("letter(0, 2)", Edges.letterOf(x, 0, 2), Edges.THROWN);
        Check.same("letter(1, 0)", Edges.letterOf(x, 1, 0), Edges.THROWN);
    }

    @Says("NoSuchElementException if there is none such.")
    static void p40TroubleStays() {
        ChannelSqueeze x = Check.told(ONE);
        x.on(99);
        Check.same("letter(0, 0)", Edges.letterOf(x, 0, 0), 0);
        Check.same("trouble()", x.trouble(), 2);
        x.on(1);
        Check.same("letter(0, 1)", Edges.letterOf(x, 0, 1), Edges.THROWN);
        Check.same("trouble()", x.trouble(), 0);
    }
}
