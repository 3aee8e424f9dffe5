import java.util.NoSuchElementException;

/**
 * Stations packed anew into fewer channels: who disturbs whom, which of them fit together, whom to
 * buy off the air for the least, and how those that are left move without disturbing anybody.
 *
 * <p>All rows are made by the constructors and used again: no call makes an object.
 */
public final class ChannelSqueeze {
    public static final int NONE = -1;

    private static final int NOT_THIS = -2;

    private static final int NO_SUCH = 1;
    private static final int BAD_NUMBER = 2;
    private static final int FAULTY = 4;
    private static final int NOT_SO = 5;
    private static final int THERE_IS_NONE = 6;

    private static final int MOST_BYTES = 700;
    private static final int MOST_STATIONS = 8;
    private static final int MOST_BORDERS = 4;
    private static final int MOST_CHANNELS = 10;
    private static final int MOST_LETTERS = 8;
    private static final int MOST_DIGITS = 3;
    private static final int MOST_PLACE = 99;
    private static final int MOST_REACH = 60;
    private static final int MOST_PRICE = 999;
    private static final int MOST_ROWS = 999;
    private static final int MOST_ACTS = 10;
    private static final int IMAGES = 2;
    private static final int SETS = 1 << MOST_STATIONS;
    private static final int FED_BYTES = 20;

    private final Tape tape = new Tape();
    private final Reader reader = new Reader(tape);
    private final Now now = new Now();
    private final History history = new History();
    private final int[][] images = new int[IMAGES][Now.LENGTH];
    private final boolean[] imageIsKept = new boolean[IMAGES];
    private final Packer packer = new Packer();
    private final Market market = new Market(packer);
    private final Squeezer squeezer = new Squeezer(packer);
    private Plan plan = new Plan();
    /** A TEXT is read into this one first, since a FAULT must leave the plan as it is. */
    private Plan draft = new Plan();
    private int latestTrouble;
    private int latestFault;
    private int faultPlace = NONE;

    public ChannelSqueeze() {
    }

    // ---- texts

    public int feed(int a, int b, int c, int d, int e) {
        if (!tape.hasRoomFor(FED_BYTES)) {
            return NONE;
        }
        tape.addNumber(a);
        tape.addNumber(b);
        tape.addNumber(c);
        tape.addNumber(d);
        tape.addNumber(e);
        return tape.count;
    }

    public int text(int n) {
        if (n < 0 || n > tape.count) {
            return refused(BAD_NUMBER);
        }
        boolean faultless = reader.read(n, draft);
        tape.empty();
        latestFault = reader.faultFound;
        faultPlace = reader.faultAt;
        if (!faultless) {
            return refused(FAULTY);
        }
        beginAnew();
        return answered(plan.stations.count);
    }

    private void beginAnew() {
        Plan old = plan;
        plan = draft;
        draft = old;
        plan.findNeighbours();
        now.begin(plan);
        history.empty();
        for (int i = 0; i < IMAGES; i++) {
            imageIsKept[i] = false;
        }
    }

    public int fault() {
        return latestFault;
    }

    public int where() {
        return latestTrouble == FAULTY ? faultPlace : NONE;
    }

    // ---- what is told

    public int about(int what) {
        if (!hasText() || what < 0 || what > 8) {
            return refused(NO_SUCH);
        }
        switch (what) {
            case 0: return answered(plan.channels);
            case 1: return answered(plan.stations.count);
            case 2: return answered(plan.borders.count);
            case 3: return answered(now.air);
            case 4: return answered(now.wrongOnes(plan));
            case 5: return answered(now.worthOf(now.air));
            case 6: return answered(now.paid);
            case 7: return answered(now.greatestChannel());
            default: return answered(history.size);
        }
    }

    public int station(int s, int what) {
        if (!isStation(s) || what < 0 || what > 7) {
            return refused(NO_SUCH);
        }
        switch (what) {
            case 0: return answered(plan.stations.x[s]);
            case 1: return answered(plan.stations.y[s]);
            case 2: return answered(plan.stations.reach[s]);
            case 3: return answered(now.channel[s]);
            case 4: return answered(now.worth[s]);
            case 5: return answered(has(now.air, s) ? 1 : 0);
            case 6: return answered(now.listOf(plan, s));
            default: return answered(now.banned[s]);
        }
    }

    public int border(int b, int what) {
        if (!hasText() || b < 0 || b >= plan.borders.count || what < 0 || what > 4) {
            return refused(NO_SUCH);
        }
        switch (what) {
            case 0: return answered(plan.borders.x[b]);
            case 1: return answered(plan.borders.y[b]);
            case 2: return answered(plan.borders.reach[b]);
            case 3: return answered(plan.borders.channels[b]);
            default: return answered(plan.behindBorder[b]);
        }
    }

    public int far(int s, int t) {
        if (!isStation(s) || !isStation(t)) {
            return refused(NO_SUCH);
        }
        return answered(plan.stations.farFrom(t, plan.stations.x[s], plan.stations.y[s]));
    }

    public int near(int s, int kind) {
        if (!isStation(s) || kind < 0 || kind > 2) {
            return refused(NO_SUCH);
        }
        if (kind == 0) {
            return answered(plan.clash[s]);
        }
        if (kind == 1) {
            return answered(plan.brush[s]);
        }
        return answered(has(now.air, s) ? now.disturbers(plan, s, now.channel[s]) : 0);
    }

    public int on(int c) {
        if (isRefused(hasText(), isChannel(c))) {
            return NONE;
        }
        int found = 0;
        for (int s = 0; s < plan.stations.count; s++) {
            if (has(now.air, s) && now.channel[s] == c) {
                found |= bit(s);
            }
        }
        return answered(found);
    }

    public int free(int s) {
        if (!isStation(s)) {
            return refused(NO_SUCH);
        }
        return answered(now.freeChannels(plan, s));
    }

    // ---- what fits

    public int fits(int set, int m) {
        if (isRefused(hasText(), isSet(set) && isChannel(m))) {
            return NONE;
        }
        packer.learn(plan, now);
        return answered(packer.packs(set, m) ? 1 : 0);
    }

    public int rowOf(int set, int m, int s) {
        if (isRefused(isStation(s), isSet(set) && isChannel(m) && has(set, s))) {
            return NONE;
        }
        packer.learn(plan, now);
        if (!packer.packs(set, m)) {
            return refused(THERE_IS_NONE);
        }
        packer.begin(set, m);
        packer.settle(set);
        return answered(packer.settledChannel(s));
    }

    public int rows(int set, int m) {
        if (isRefused(hasText(), isSet(set) && isChannel(m))) {
            return NONE;
        }
        packer.learn(plan, now);
        if (!packer.packs(set, m)) {
            return answered(0);
        }
        packer.begin(set, m);
        return answered(packer.countRows(0, set, MOST_ROWS));
    }

    public int fewest(int set) {
        if (isRefused(hasText(), isSet(set))) {
            return NONE;
        }
        if (set == 0) {
            return answered(0);
        }
        packer.learn(plan, now);
        for (int m = 1; m <= plan.channels; m++) {
            if (packer.packs(set, m)) {
                return answered(m);
            }
        }
        return answered(NOT_THIS);
    }

    public int proof(int set, int m) {
        if (isRefused(hasText(), isSet(set) && isChannel(m))) {
            return NONE;
        }
        packer.learn(plan, now);
        int found = packer.leastThatDoesNotPack(set, m);
        return answered(found == NONE ? NOT_THIS : found);
    }

    public int cheapest(int m, int what) {
        if (isRefused(hasText() && what >= 0 && what <= 1, isChannel(m))) {
            return NONE;
        }
        packer.learn(plan, now);
        int bought = market.leastToBuy(now, m, 0);
        return answered(what == 0 ? bought : now.worthOf(bought));
    }

    public int could(int set, int m, int s) {
        if (isRefused(isStation(s), isSet(set) && isChannel(m) && has(set, s))) {
            return NONE;
        }
        packer.learn(plan, now);
        if (!packer.packs(set, m)) {
            return answered(0);
        }
        int found = 0;
        for (int c = 1; c <= m; c++) {
            packer.begin(set, m);
            packer.limit(s, channelBit(c));
            if (packer.search(0, set)) {
                found |= channelBit(c);
            }
        }
        return answered(found);
    }

    // ---- the clock

    public int clock(int m, int price, int step, int what) {
        if (isRefused(hasText() && what >= 0 && what <= 4, isClock(m, price, step))) {
            return NONE;
        }
        packer.learn(plan, now);
        market.runClock(now, m, price, step);
        switch (what) {
            case 0: return answered(market.rounds);
            case 1: return answered(market.staying);
            case 2: return answered(market.frozen);
            case 3: return answered(market.sold);
            default: return answered(market.frozenPrices());
        }
    }

    public int pay(int m, int price, int step, int s) {
        if (isRefused(isStation(s), isClock(m, price, step))) {
            return NONE;
        }
        packer.learn(plan, now);
        market.runClock(now, m, price, step);
        return answered(has(market.frozen | market.sold, s) ? market.price[s] : NOT_THIS);
    }

    // ---- squeezed

    public int squeeze(int m) {
        if (isRefused(hasText(), isChannel(m))) {
            return NONE;
        }
        return answered(squeezeNow(m) ? Integer.bitCount(squeezer.movers) : NOT_THIS);
    }

    public int squeezeOf(int m, int s) {
        if (isRefused(isStation(s), isChannel(m))) {
            return NONE;
        }
        if (!squeezeNow(m)) {
            return refused(THERE_IS_NONE);
        }
        return answered(squeezer.row[s]);
    }

    public int order(int m, int i) {
        if (isRefused(hasText() && i >= 0, isChannel(m))) {
            return NONE;
        }
        if (!squeezeNow(m)) {
            return refused(THERE_IS_NONE);
        }
        squeezer.findSequence(plan, now);
        return answered(i < squeezer.sequenceLength ? squeezer.sequence[i] : NOT_THIS);
    }

    public int steps(int m, int what) {
        if (isRefused(hasText() && what >= 0 && what <= 2, isChannel(m))) {
            return NONE;
        }
        packer.learn(plan, now);
        if (!squeezer.goDown(now, plan.channels - 1, m)) {
            return answered(NOT_THIS);
        }
        switch (what) {
            case 0: return answered(squeezer.allMoves);
            case 1: return answered(squeezer.mostMoves);
            default: return answered(squeezer.movedAtLast(now));
        }
    }

    private boolean squeezeNow(int m) {
        packer.learn(plan, now);
        return squeezer.findRow(now.air, now.channel, m);
    }

    // ---- bought, heard

    public int due(int m, int s) {
        if (isRefused(isStation(s), isChannel(m))) {
            return NONE;
        }
        packer.learn(plan, now);
        int bought = market.leastToBuy(now, m, 0);
        if (bought == NONE || !has(bought, s)) {
            return answered(NOT_THIS);
        }
        int instead = market.leastToBuy(now, m, bit(s));
        if (instead == NONE) {
            return refused(THERE_IS_NONE);
        }
        return answered(now.worthOf(instead) - now.worthOf(bought & ~bit(s)));
    }

    public int heard(int x, int y, int kind) {
        if (isRefused(hasText() && kind >= 0 && kind <= 2, isPlace(x) && isPlace(y))) {
            return NONE;
        }
        int stations = plan.stations.reaching(x, y) & now.air;
        if (kind == 0) {
            return answered(stations);
        }
        int once = 0;
        int more = 0;
        for (int s = 0; s < plan.stations.count; s++) {
            if (has(stations, s)) {
                int channel = channelBit(now.channel[s]);
                more |= once & channel;
                once |= channel;
            }
        }
        return answered(kind == 1 ? once & ~more : more);
    }

    public int islands(int what) {
        if (!hasText() || what < 0 || what > 2) {
            return refused(NO_SUCH);
        }
        int count = 0;
        int greatest = 0;
        int left = now.air;
        for (int s = 0; s < plan.stations.count; s++) {
            if (has(left, s)) {
                int island = plan.islandOf(s, now.air);
                left &= ~island;
                count++;
                if (Integer.bitCount(island) > Integer.bitCount(greatest)) {
                    greatest = island;
                }
            }
        }
        if (what == 0) {
            return answered(count);
        }
        return answered(what == 1 ? Integer.bitCount(greatest) : greatest);
    }

    public int lower(int s) {
        if (!isStation(s)) {
            return refused(NO_SUCH);
        }
        int free = now.freeChannels(plan, s);
        for (int c = 1; c < now.channel[s]; c++) {
            if ((free & channelBit(c)) != 0) {
                return answered(c);
            }
        }
        return answered(0);
    }

    // ---- acts

    public int move(int s, int c, boolean forced) {
        if (isRefused(isStation(s), isChannel(c))) {
            return NONE;
        }
        if (!forced && !now.isFree(plan, s, c)) {
            return refused(NOT_SO);
        }
        history.remember(now);
        int had = now.channel[s];
        now.channel[s] = c;
        return answered(had);
    }

    public int buy(int s, int v) {
        if (isRefused(isStation(s), isPrice(v))) {
            return NONE;
        }
        if (!has(now.air, s)) {
            return refused(NOT_SO);
        }
        history.remember(now);
        now.air &= ~bit(s);
        now.paid += v;
        return answered(now.paid);
    }

    public int air(int s) {
        if (!isStation(s)) {
            return refused(NO_SUCH);
        }
        if (has(now.air, s) || !now.isFree(plan, s, now.channel[s])) {
            return refused(NOT_SO);
        }
        history.remember(now);
        now.air |= bit(s);
        return answered(Integer.bitCount(now.air));
    }

    public int lay(int m) {
        if (isRefused(hasText(), isChannel(m))) {
            return NONE;
        }
        if (!squeezeNow(m)) {
            return refused(THERE_IS_NONE);
        }
        history.remember(now);
        for (int s = 0; s < plan.stations.count; s++) {
            now.channel[s] = squeezer.row[s];
        }
        return answered(Integer.bitCount(squeezer.movers));
    }

    public int clear(int m, int price, int step) {
        if (isRefused(hasText(), isClock(m, price, step))) {
            return NONE;
        }
        packer.learn(plan, now);
        market.runClock(now, m, price, step);
        history.remember(now);
        now.air &= ~(market.frozen | market.sold);
        now.paid += market.frozenPrices();
        return answered(now.paid);
    }

    public int value(int s, int v) {
        if (isRefused(isStation(s), isPrice(v))) {
            return NONE;
        }
        history.remember(now);
        int was = now.worth[s];
        now.worth[s] = v;
        return answered(was);
    }

    public int ban(int s, int c) {
        if (isRefused(isStation(s), isChannel(c))) {
            return NONE;
        }
        history.remember(now);
        now.banned[s] ^= channelBit(c);
        return answered(now.banned[s]);
    }

    public int undo() {
        if (!hasText()) {
            return refused(NO_SUCH);
        }
        if (history.size == 0) {
            return refused(NOT_SO);
        }
        history.takeBack(now);
        return answered(history.size);
    }

    public boolean keep(int i) {
        if (!hasText() || i < 0 || i >= IMAGES) {
            latestTrouble = NO_SUCH;
            return false;
        }
        now.writeTo(images[i]);
        imageIsKept[i] = true;
        latestTrouble = 0;
        return true;
    }

    public boolean back(int i) {
        if (!hasText() || i < 0 || i >= IMAGES || !imageIsKept[i]) {
            latestTrouble = NO_SUCH;
            return false;
        }
        now.readFrom(images[i]);
        history.empty();
        latestTrouble = 0;
        return true;
    }

    // ---- names

    public int letter(int s, int i) throws NoSuchElementException {
        if (!isStation(s) || i < 0 || i >= plan.nameLength[s]) {
            throw new NoSuchElementException("no such letter");
        }
        return plan.names[s][i] - 'a';
    }

    public int bytes() {
        return tape.count;
    }

    public int trouble() {
        return latestTrouble;
    }

    // ---- what the calls share

    /** Most calls refuse by 1 what isn't there, and only then by 2 a number out of its bounds. */
    private boolean isRefused(boolean isThere, boolean isWithinBounds) {
        latestTrouble = !isThere ? NO_SUCH : !isWithinBounds ? BAD_NUMBER : 0;
        return latestTrouble != 0;
    }

    private int refused(int number) {
        latestTrouble = number;
        return NONE;
    }

    private int answered(int answer) {
        latestTrouble = 0;
        return answer;
    }

    /** No TEXT is without a STATION. */
    private boolean hasText() {
        return plan.stations.count > 0;
    }

    private boolean isStation(int s) {
        return s >= 0 && s < plan.stations.count;
    }

    private boolean isChannel(int c) {
        return c >= 1 && c <= plan.channels;
    }

    private boolean isSet(int set) {
        return set >= 0 && set < bit(plan.stations.count);
    }

    private boolean isClock(int m, int price, int step) {
        return isChannel(m) && isPrice(price) && isPrice(step) && step > 0;
    }

    private static boolean isPrice(int v) {
        return v >= 0 && v <= MOST_PRICE;
    }

    private static boolean isPlace(int v) {
        return v >= 0 && v <= MOST_PLACE;
    }

    private static int bit(int s) {
        return 1 << s;
    }

    private static int channelBit(int c) {
        return 1 << (c - 1);
    }

    private static boolean has(int set, int s) {
        return (set >> s & 1) != 0;
    }

    /** Bytes that have come and were not yet taken for a TEXT. */
    private static final class Tape {
        private final byte[] held = new byte[MOST_BYTES];
        private int count;

        boolean hasRoomFor(int more) {
            return count + more <= MOST_BYTES;
        }

        void addNumber(int number) {
            for (int shift = 24; shift >= 0 && count < MOST_BYTES; shift -= 8) {
                held[count] = (byte) (number >> shift);
                count++;
            }
        }

        int byteAt(int i) {
            return i >= 0 && i < count ? held[i] & 255 : 0;
        }

        void empty() {
            count = 0;
        }
    }

    /** Places with a reach and a set of channels each: the stations, or the borders, of a text. */
    private static final class Sites {
        private final int[] x;
        private final int[] y;
        private final int[] reach;
        private final int[] channels;
        private final int most;
        private int count;

        Sites(int most) {
            this.most = most < 0 ? 0 : most;
            x = new int[this.most];
            y = new int[this.most];
            reach = new int[this.most];
            channels = new int[this.most];
        }

        void empty() {
            count = 0;
            for (int i = 0; i < most; i++) {
                channels[i] = 0;
            }
        }

        int farFrom(int i, int atX, int atY) {
            if (i < 0 || i >= most) {
                return 0;
            }
            int across = x[i] - atX;
            int along = y[i] - atY;
            return across * across + along * along;
        }

        /** Those within whose own reach a place is, as bits. */
        int reaching(int atX, int atY) {
            int found = 0;
            for (int i = 0; i < count && i < most; i++) {
                if (farFrom(i, atX, atY) <= reach[i] * reach[i]) {
                    found |= bit(i);
                }
            }
            return found;
        }
    }

    /** What a text tells, and who disturbs whom by it; acts change nothing here. */
    private static final class Plan {
        private final Sites stations = new Sites(MOST_STATIONS);
        private final Sites borders = new Sites(MOST_BORDERS);
        private final int[] toldChannel = new int[MOST_STATIONS];
        private final int[] toldWorth = new int[MOST_STATIONS];
        private final int[][] names = new int[MOST_STATIONS][MOST_LETTERS];
        private final int[] nameLength = new int[MOST_STATIONS];
        private final int[] clash = new int[MOST_STATIONS];
        private final int[] brush = new int[MOST_STATIONS];
        private final int[] behindBorder = new int[MOST_BORDERS];
        /** The channels that no border takes from a station. */
        private final int[] open = new int[MOST_STATIONS];
        private int channels;

        void empty() {
            channels = 0;
            stations.empty();
            borders.empty();
        }

        void findNeighbours() {
            for (int s = 0; s < MOST_STATIONS; s++) {
                clash[s] = 0;
                brush[s] = 0;
                open[s] = s < stations.count ? bit(channels) - 1 : 0;
            }
            for (int b = 0; b < MOST_BORDERS; b++) {
                behindBorder[b] = 0;
            }
            for (int s = 0; s < stations.count; s++) {
                findBorders(s);
                for (int t = 0; t < s; t++) {
                    findPair(s, t);
                }
            }
        }

        private void findBorders(int s) {
            int found = borders.reaching(stations.x[s], stations.y[s]);
            for (int b = 0; b < borders.count; b++) {
                if (has(found, b)) {
                    behindBorder[b] |= bit(s);
                    open[s] &= ~borders.channels[b];
                }
            }
        }

        private void findPair(int s, int t) {
            int far = stations.farFrom(t, stations.x[s], stations.y[s]);
            int both = stations.reach[s] + stations.reach[t];
            int greater = Math.max(stations.reach[s], stations.reach[t]);
            if (far <= both * both) {
                clash[s] |= bit(t);
                clash[t] |= bit(s);
            }
            if (far <= greater * greater) {
                brush[s] |= bit(t);
                brush[t] |= bit(s);
            }
        }

        /** Whether s on channel c and t on channel d disturb each other. */
        boolean disturb(int s, int c, int t, int d) {
            if (s < 0 || s >= MOST_STATIONS) {
                return false;
            }
            if (c == d) {
                return has(clash[s], t);
            }
            return (c == d + 1 || d == c + 1) && has(brush[s], t);
        }

        int islandOf(int s, int among) {
            int island = bit(s);
            // an island is known whole after as many rounds as it can have stations
            for (int round = 0; round < MOST_STATIONS; round++) {
                for (int t = 0; t < stations.count; t++) {
                    if (has(among, t) && (clash[t] & island) != 0) {
                        island |= bit(t);
                    }
                }
            }
            return island;
        }
    }

    /** Reads a text from the tape into a plan, token by token, up to the first fault. */
    private static final class Reader {
        private static final String CHANNELS = "channels";
        private static final String STATION = "station";
        private static final String AT = "at";
        private static final String REACH = "reach";
        private static final String ON = "on";
        private static final String WORTH = "worth";
        private static final String NOT = "not";
        private static final String BORDER = "border";

        private static final int FORM = 1;
        private static final int BOUNDS = 2;
        private static final int AGAIN = 3;
        private static final int TOO_MANY = 4;
        private static final int NO_STATION = 5;

        private static final int END = 0;
        private static final int WORD = 1;
        private static final int WHOLE = 2;
        private static final int SIGN = 3;
        private static final int NO_TOKEN = 4;

        private final Tape tape;
        private int end;
        private int next;
        private int kind;
        private int start;
        private int length;
        /** The number that a whole tells, or the byte of a sign; of a word it says nothing. */
        private int number;
        private int faultFound;
        private int faultAt;

        Reader(Tape tape) {
            this.tape = tape;
        }

        boolean read(int bytes, Plan plan) {
            end = bytes;
            next = 0;
            faultFound = 0;
            faultAt = NONE;
            plan.empty();
            nextToken();
            if (!readChannels(plan)) {
                return false;
            }
            boolean faultless = true;
            for (int line = 0; line < MOST_BYTES && faultless && kind != END; line++) {
                if (!passSemicolon()) {
                    return false;
                }
                if (isWord(STATION)) {
                    faultless = readStation(plan);
                } else if (isWord(BORDER)) {
                    faultless = readBorder(plan);
                } else {
                    faultless = faulty(isWord(CHANNELS) ? AGAIN : FORM);
                }
            }
            return faultless && (plan.stations.count > 0 || faulty(NO_STATION));
        }

        private boolean readChannels(Plan plan) {
            if (!passWord(CHANNELS) || !isWhole(1, MOST_CHANNELS)) {
                return false;
            }
            plan.channels = taken();
            return true;
        }

        private boolean readStation(Plan plan) {
            int s = plan.stations.count;
            if (s >= MOST_STATIONS) {
                return faulty(TOO_MANY);
            }
            nextToken();
            if (!readName(plan, s) || !readPlace(plan.stations, s)) {
                return false;
            }
            if (!passWord(ON) || !isWhole(1, plan.channels)) {
                return false;
            }
            plan.toldChannel[s] = taken();
            if (!passWord(WORTH) || !isWhole(0, MOST_PRICE)) {
                return false;
            }
            plan.toldWorth[s] = taken();
            if (isWord(NOT) && !readNot(plan.stations, s, plan.channels)) {
                return false;
            }
            plan.stations.count++;
            return true;
        }

        private boolean readBorder(Plan plan) {
            int b = plan.borders.count;
            if (b >= MOST_BORDERS) {
                return faulty(TOO_MANY);
            }
            nextToken();
            if (!readPlace(plan.borders, b) || !readNot(plan.borders, b, plan.channels)) {
                return false;
            }
            plan.borders.count++;
            return true;
        }

        private boolean readName(Plan plan, int s) {
            if (kind != WORD || isOwnWord()) {
                return faulty(FORM);
            }
            for (int t = 0; t < s; t++) {
                if (isName(plan, t)) {
                    return faulty(AGAIN);
                }
            }
            plan.nameLength[s] = length;
            for (int i = 0; i < length && i < MOST_LETTERS; i++) {
                plan.names[s][i] = tape.byteAt(start + i);
            }
            nextToken();
            return true;
        }

        private boolean readPlace(Sites sites, int i) {
            if (i < 0 || i >= sites.most || !passWord(AT) || !isWhole(0, MOST_PLACE)) {
                return false;
            }
            sites.x[i] = taken();
            if (!isWhole(0, MOST_PLACE)) {
                return false;
            }
            sites.y[i] = taken();
            if (!passWord(REACH) || !isWhole(1, MOST_REACH)) {
                return false;
            }
            sites.reach[i] = taken();
            return true;
        }

        private boolean readNot(Sites sites, int i, int channels) {
            if (i < 0 || i >= sites.most || !passWord(NOT)) {
                return false;
            }
            for (int told = 0; told < MOST_BYTES; told++) {
                if (!isWhole(1, channels)) {
                    return false;
                }
                if ((sites.channels[i] & channelBit(number)) != 0) {
                    return faulty(AGAIN);
                }
                sites.channels[i] |= channelBit(taken());
                if (!isSign(',')) {
                    return true;
                }
                nextToken();
            }
            return true;
        }

        /** Tells a fault at the token that was read last. */
        private boolean faulty(int which) {
            faultFound = which;
            faultAt = start;
            return false;
        }

        private boolean passWord(String word) {
            if (!isWord(word)) {
                return faulty(FORM);
            }
            nextToken();
            return true;
        }

        private boolean passSemicolon() {
            if (!isSign(';')) {
                return faulty(FORM);
            }
            nextToken();
            return true;
        }

        private boolean isWhole(int least, int most) {
            if (kind != WHOLE) {
                return faulty(FORM);
            }
            return number >= least && number <= most || faulty(BOUNDS);
        }

        private int taken() {
            int was = number;
            nextToken();
            return was;
        }

        private boolean isSign(int sign) {
            return kind == SIGN && number == sign;
        }

        private boolean isWord(String word) {
            if (kind != WORD || length != word.length()) {
                return false;
            }
            for (int i = 0; i < word.length(); i++) {
                if (tape.byteAt(start + i) != word.charAt(i)) {
                    return false;
                }
            }
            return true;
        }

        private boolean isOwnWord() {
            return isWord(CHANNELS) || isWord(STATION) || isWord(AT) || isWord(REACH)
                || isWord(ON) || isWord(WORTH) || isWord(NOT) || isWord(BORDER);
        }

        private boolean isName(Plan plan, int t) {
            if (t < 0 || t >= MOST_STATIONS || length != plan.nameLength[t]) {
                return false;
            }
            for (int i = 0; i < length && i < MOST_LETTERS; i++) {
                if (tape.byteAt(start + i) != plan.names[t][i]) {
                    return false;
                }
            }
            return true;
        }

        private void nextToken() {
            while (next < end && tape.byteAt(next) == ' ') {
                next++;
            }
            start = next;
            length = 0;
            if (next >= end) {
                kind = END;
                return;
            }
            int first = tape.byteAt(next);
            kind = kindOf(first);
            number = kind == WHOLE ? first - '0' : first;
            next++;
            boolean runsOn = kind == WORD || kind == WHOLE;
            while (runsOn && next < end && kindOf(tape.byteAt(next)) == kind) {
                number = number * 10 + tape.byteAt(next) - '0';
                next++;
            }
            length = next - start;
            if (kind == WORD && length > MOST_LETTERS || kind == WHOLE && length > MOST_DIGITS) {
                kind = NO_TOKEN;
            }
        }

        private static int kindOf(int b) {
            if (b >= 'a' && b <= 'z') {
                return WORD;
            }
            if (b >= '0' && b <= '9') {
                return WHOLE;
            }
            return b == ';' || b == ',' ? SIGN : NO_TOKEN;
        }
    }

    /** All that acts change. */
    private static final class Now {
        /** Three numbers a station, the set on air, what is paid. */
        private static final int LENGTH = 3 * MOST_STATIONS + 2;

        private final int[] channel = new int[MOST_STATIONS];
        private final int[] worth = new int[MOST_STATIONS];
        private final int[] banned = new int[MOST_STATIONS];
        private int air;
        private int paid;

        void begin(Plan plan) {
            for (int s = 0; s < MOST_STATIONS; s++) {
                channel[s] = plan.toldChannel[s];
                worth[s] = plan.toldWorth[s];
                banned[s] = plan.stations.channels[s];
            }
            air = bit(plan.stations.count) - 1;
            paid = 0;
        }

        void writeTo(int[] image) {
            if (image.length < LENGTH) {
                return;
            }
            for (int s = 0; s < MOST_STATIONS; s++) {
                image[3 * s] = channel[s];
                image[3 * s + 1] = worth[s];
                image[3 * s + 2] = banned[s];
            }
            image[LENGTH - 2] = air;
            image[LENGTH - 1] = paid;
        }

        void readFrom(int[] image) {
            if (image.length < LENGTH) {
                return;
            }
            for (int s = 0; s < MOST_STATIONS; s++) {
                channel[s] = image[3 * s];
                worth[s] = image[3 * s + 1];
                banned[s] = image[3 * s + 2];
            }
            air = image[LENGTH - 2];
            paid = image[LENGTH - 1];
        }

        int listOf(Plan plan, int s) {
            return s < 0 || s >= MOST_STATIONS ? 0 : plan.open[s] & ~banned[s];
        }

        /** Other stations on air that disturb s, were it on channel c, as bits. */
        int disturbers(Plan plan, int s, int c) {
            int found = 0;
            for (int t = 0; t < MOST_STATIONS; t++) {
                if (has(air, t) && plan.disturb(s, c, t, channel[t])) {
                    found |= bit(t);
                }
            }
            return found;
        }

        boolean isFree(Plan plan, int s, int c) {
            return (listOf(plan, s) & channelBit(c)) != 0 && disturbers(plan, s, c) == 0;
        }

        int freeChannels(Plan plan, int s) {
            int found = 0;
            for (int c = 1; c <= plan.channels; c++) {
                if (isFree(plan, s, c)) {
                    found |= channelBit(c);
                }
            }
            return found;
        }

        int wrongOnes(Plan plan) {
            int found = 0;
            for (int s = 0; s < MOST_STATIONS; s++) {
                if (has(air, s) && !isFree(plan, s, channel[s])) {
                    found |= bit(s);
                }
            }
            return found;
        }

        int worthOf(int set) {
            int sum = 0;
            for (int s = 0; s < MOST_STATIONS; s++) {
                if (has(set, s)) {
                    sum += worth[s];
                }
            }
            return sum;
        }

        int greatestChannel() {
            int greatest = 0;
            for (int s = 0; s < MOST_STATIONS; s++) {
                if (has(air, s)) {
                    greatest = Math.max(greatest, channel[s]);
                }
            }
            return greatest;
        }
    }

    /** How all was ahead of each of the latest acts, in a ring. */
    private static final class History {
        private final int[][] ring = new int[MOST_ACTS][Now.LENGTH];
        private int next;
        private int size;

        void empty() {
            size = 0;
        }

        void remember(Now now) {
            if (next < 0 || next >= MOST_ACTS) {
                next = 0;
            }
            now.writeTo(ring[next]);
            next = next + 1 == MOST_ACTS ? 0 : next + 1;
            size = Math.min(size + 1, MOST_ACTS);
        }

        void takeBack(Now now) {
            if (size == 0) {
                return;
            }
            next = next <= 0 || next >= MOST_ACTS ? MOST_ACTS - 1 : next - 1;
            size--;
            now.readFrom(ring[next]);
        }
    }

    /**
     * Finds rows: the station that has the fewest channels left goes first, and each channel that
     * is taken leaves the others without those on which they would be disturbed.
     */
    private static final class Packer {
        private final int[] list = new int[MOST_STATIONS];
        private final int[] clash = new int[MOST_STATIONS];
        private final int[] brush = new int[MOST_STATIONS];
        /** The channels left to each station, a row for each depth of the search. */
        private final int[][] left = new int[MOST_STATIONS + 1][MOST_STATIONS];
        /** Twice the age at which a set was tried with so many channels, and 1 more if it packs. */
        private final int[] known = new int[(MOST_CHANNELS + 1) * SETS];
        /** So many channels a set of the stations told needs at least, whatever its lists are. */
        private final int[] needed = new int[SETS];
        private int stations;
        /** Grows when the lists or the neighbours are others: what is known of old is void then. */
        private int age;

        void learn(Plan plan, Now now) {
            boolean otherLists = false;
            boolean otherNeighbours = stations != plan.stations.count;
            stations = plan.stations.count;
            for (int s = 0; s < MOST_STATIONS; s++) {
                int listed = now.listOf(plan, s);
                otherLists = otherLists || list[s] != listed;
                otherNeighbours = otherNeighbours || clash[s] != plan.clash[s] || brush[s] != plan.brush[s];
                list[s] = listed;
                clash[s] = plan.clash[s];
                brush[s] = plan.brush[s];
            }
            if (otherNeighbours) {
                learnNeeded();
            }
            if (otherLists || otherNeighbours) {
                age++;
            }
        }

        /**
         * Those of whom each clashes with each need a channel each, and one between if each brushes
         * each: that tells of many sets, without a search, that they don't pack.
         */
        private void learnNeeded() {
            for (int set = 1; set < bit(stations) && set < SETS; set++) {
                int least = 1;
                boolean allClash = true;
                boolean allBrush = true;
                for (int s = 0; s < MOST_STATIONS; s++) {
                    if (has(set, s)) {
                        int others = set & ~bit(s);
                        least = Math.max(least, needed[others]);
                        allClash = allClash && (others & ~clash[s]) == 0;
                        allBrush = allBrush && (others & ~brush[s]) == 0;
                    }
                }
                int count = Integer.bitCount(set);
                needed[set] = allBrush ? 2 * count - 1 : allClash ? count : least;
            }
        }

        boolean packs(int set, int m) {
            if (set < 0 || set >= SETS || m < 0 || m > MOST_CHANNELS) {
                return false;
            }
            int at = m * SETS + set;
            if (known[at] >> 1 != age) {
                begin(set, m);
                known[at] = 2 * age + (needed[set] <= m && search(0, set) ? 1 : 0);
            }
            return (known[at] & 1) != 0;
        }

        /** A part of the set that does not pack, of fewest, of like ones the least; or NONE. */
        int leastThatDoesNotPack(int set, int m) {
            if (packs(set, m)) {
                return NONE;
            }
            int found = set;
            int size = Integer.bitCount(set);
            for (int part = 1; part < set && part < SETS; part++) {
                if ((part & ~set) == 0 && Integer.bitCount(part) < size && !packs(part, m)) {
                    found = part;
                    size = Integer.bitCount(part);
                }
            }
            return found;
        }

        /** All stations of a set have their whole lists up to m left. */
        void begin(int set, int m) {
            for (int s = 0; s < MOST_STATIONS; s++) {
                left[0][s] = has(set, s) ? list[s] & (bit(m) - 1) : 0;
            }
        }

        void limit(int s, int channels) {
            if (s >= 0 && s < MOST_STATIONS) {
                left[0][s] &= channels;
            }
        }

        /** Whether the stations of a set can each have one of the channels left at this depth. */
        private boolean search(int depth, int set) {
            if (set == 0) {
                return true;
            }
            if (depth < 0 || depth >= MOST_STATIONS) {
                return false;
            }
            int s = tightest(depth, set);
            if (s == NONE) {
                return false;
            }
            int choices = left[depth][s];
            for (int c = 1; c <= MOST_CHANNELS; c++) {
                int channel = choices & channelBit(c);
                if (channel != 0 && take(depth, set, s, channel) && search(depth + 1, set & ~bit(s))) {
                    return true;
                }
            }
            return false;
        }

        /** In how many ways they can, so many at most. */
        private int countRows(int depth, int set, int most) {
            if (set == 0) {
                return 1;
            }
            if (depth < 0 || depth >= MOST_STATIONS) {
                return 0;
            }
            int s = tightest(depth, set);
            if (s == NONE) {
                return 0;
            }
            int choices = left[depth][s];
            if (set == bit(s)) {
                return Math.min(Integer.bitCount(choices), most);
            }
            int found = 0;
            for (int c = 1; c <= MOST_CHANNELS && found < most; c++) {
                int channel = choices & channelBit(c);
                if (channel != 0 && take(depth, set, s, channel)) {
                    found += countRows(depth + 1, set & ~bit(s), most - found);
                }
            }
            return found;
        }

        private int tightest(int depth, int set) {
            int found = NONE;
            int least = MOST_CHANNELS + 1;
            if (depth < 0 || depth > MOST_STATIONS) {
                return NONE;
            }
            for (int s = 0; s < MOST_STATIONS; s++) {
                if (has(set, s) && Integer.bitCount(left[depth][s]) < least) {
                    found = s;
                    least = Integer.bitCount(left[depth][s]);
                }
            }
            return found;
        }

        /** Station s has a channel: false if another one of the set has none left then. */
        private boolean take(int depth, int set, int s, int channel) {
            if (depth < 0 || depth >= MOST_STATIONS || s < 0 || s >= MOST_STATIONS) {
                return false;
            }
            int[] before = left[depth];
            int[] behind = left[depth + 1];
            int others = set & ~bit(s);
            for (int t = 0; t < MOST_STATIONS; t++) {
                if (has(others, t)) {
                    int stays = before[t];
                    if (has(clash[s], t)) {
                        stays &= ~channel;
                    }
                    if (has(brush[s], t)) {
                        stays &= ~(channel << 1 | channel >> 1);
                    }
                    if (stays == 0) {
                        return false;
                    }
                    behind[t] = stays;
                }
            }
            return true;
        }

        /** Leaves each station of the set its channel of the first row; false if there is none. */
        boolean settle(int set) {
            if (!search(0, set)) {
                return false;
            }
            for (int s = 0; s < MOST_STATIONS; s++) {
                int choices = left[0][s];
                boolean settled = !has(set, s);
                for (int c = 1; c <= MOST_CHANNELS && !settled; c++) {
                    if ((choices & channelBit(c)) != 0) {
                        left[0][s] = channelBit(c);
                        settled = search(0, set);
                    }
                }
            }
            return true;
        }

        int settledChannel(int s) {
            if (s < 0 || s >= MOST_STATIONS) {
                return NONE;
            }
            for (int c = 1; c <= MOST_CHANNELS; c++) {
                if (left[0][s] == channelBit(c)) {
                    return c;
                }
            }
            return NONE;
        }
    }

    /** Whom to buy off the air: for the least together, or by the clock. */
    private static final class Market {
        private final Packer packer;
        private final int[] price = new int[MOST_STATIONS];
        private int rounds;
        private int staying;
        private int frozen;
        private int sold;

        Market(Packer packer) {
            this.packer = packer;
        }

        /** The set of least worth, none of it spared, without which the others pack; or NONE. */
        int leastToBuy(Now now, int m, int spared) {
            int found = NONE;
            int least = 0;
            for (int bought = 0; bought <= now.air && bought < SETS; bought++) {
                if ((bought & ~now.air) == 0 && (bought & spared) == 0) {
                    int worth = now.worthOf(bought);
                    if ((found == NONE || worth < least) && packer.packs(now.air & ~bought, m)) {
                        found = bought;
                        least = worth;
                    }
                }
            }
            return found;
        }

        void runClock(Now now, int m, int opening, int step) {
            rounds = 0;
            staying = 0;
            frozen = 0;
            for (int s = 0; s < MOST_STATIONS; s++) {
                price[s] = 0;
            }
            int asked = opening;
            int in = now.air;
            boolean over = false;
            for (int round = 0; round <= MOST_PRICE && !over; round++) {
                int stayed = staying;
                in = runRound(now, m, asked, in);
                rounds++;
                over = in == 0 || asked == 0;
                if (!over) {
                    int quiet = staying == stayed ? quietRounds(now, in, asked, step) : 0;
                    rounds += quiet;
                    asked = Math.max(asked - (quiet + 1) * step, 0);
                }
            }
            sold = in;
        }

        /** Who is in it still behind a round. */
        private int runRound(Now now, int m, int asked, int in) {
            int still = in;
            for (int s = 0; s < MOST_STATIONS; s++) {
                if (!has(in, s)) {
                    continue;
                }
                if (!packer.packs(staying | bit(s), m)) {
                    frozen |= bit(s);
                    price[s] = asked;
                    still &= ~bit(s);
                } else if (asked < now.worth[s]) {
                    staying |= bit(s);
                    still &= ~bit(s);
                }
            }
            return still;
        }

        /**
         * Behind a round in which nobody came to stay all that are in it pack with those that stay,
         * so nothing comes to pass before the price is below one's worth, or 0: how many rounds.
         */
        private static int quietRounds(Now now, int in, int asked, int step) {
            int greatest = 1;
            for (int s = 0; s < MOST_STATIONS; s++) {
                if (has(in, s)) {
                    greatest = Math.max(greatest, now.worth[s]);
                }
            }
            return step < 1 || asked < greatest ? 0 : (asked - greatest) / step;
        }

        int frozenPrices() {
            int sum = 0;
            for (int s = 0; s < MOST_STATIONS; s++) {
                if (has(frozen, s)) {
                    sum += price[s];
                }
            }
            return sum;
        }
    }

    /** Moves those on air to fewer channels by fewest moves, and finds in which order they may go. */
    private static final class Squeezer {
        private final Packer packer;
        /** The channels that all have, once squeezed. */
        private final int[] row = new int[MOST_STATIONS];
        private final int[] from = new int[MOST_STATIONS];
        private final int[] sequence = new int[MOST_STATIONS];
        private int movers;
        private int sequenceLength;
        private int allMoves;
        private int mostMoves;

        Squeezer(Packer packer) {
            this.packer = packer;
        }

        /** Finds the row up to m of those on air, who have their channels of old; false: none. */
        boolean findRow(int air, int[] old, int m) {
            if (air < 0 || air >= SETS || old.length < MOST_STATIONS || !packer.packs(air, m)) {
                return false;
            }
            for (int s = 0; s < MOST_STATIONS; s++) {
                from[s] = old[s];
                row[s] = old[s];
            }
            int must = thoseThatMust(air, m);
            boolean found = false;
            for (int moves = Integer.bitCount(must); moves <= MOST_STATIONS && !found; moves++) {
                for (int moving = must; moving <= air; moving++) {
                    if (isChoice(air, must, moving, moves)) {
                        holdAllBut(moving, air, m);
                        if (packer.settle(air) && (!found || isAheadOfRow(air))) {
                            takeRow(air);
                            movers = moving;
                            found = true;
                        }
                    }
                }
            }
            return found;
        }

        /** Stations that can't keep their channels, whatever the others do. */
        private int thoseThatMust(int air, int m) {
            int found = 0;
            packer.begin(air, m);
            for (int s = 0; s < MOST_STATIONS; s++) {
                if (has(air, s) && (packer.left[0][s] & channelBit(from[s])) == 0) {
                    found |= bit(s);
                }
            }
            return found;
        }

        private static boolean isChoice(int air, int must, int moving, int moves) {
            return (moving & ~air) == 0 && (must & ~moving) == 0 && Integer.bitCount(moving) == moves;
        }

        /** All on air but the moving ones have no channel left but their own. */
        private void holdAllBut(int moving, int air, int m) {
            packer.begin(air, m);
            for (int s = 0; s < MOST_STATIONS; s++) {
                if (has(air & ~moving, s)) {
                    packer.limit(s, channelBit(from[s]));
                }
            }
        }

        private boolean isAheadOfRow(int air) {
            for (int s = 0; s < MOST_STATIONS; s++) {
                if (has(air, s) && packer.settledChannel(s) != row[s]) {
                    return packer.settledChannel(s) < row[s];
                }
            }
            return false;
        }

        private void takeRow(int air) {
            for (int s = 0; s < MOST_STATIONS; s++) {
                if (has(air, s)) {
                    row[s] = packer.settledChannel(s);
                }
            }
        }

        /**
         * Finds the order of the movers of the row found last; of no length if there is none. Who has
         * gone disturbs nobody where that one goes, since both are of one row: so the least that may
         * go never stands in the way of the rest, and no choice has to be taken back.
         */
        void findSequence(Plan plan, Now now) {
            sequenceLength = 0;
            int gone = 0;
            for (int i = 0; i < MOST_STATIONS && gone != movers; i++) {
                int s = nextToGo(plan, now, gone);
                if (s == NONE) {
                    sequenceLength = 0;
                    return;
                }
                sequence[i] = s;
                sequenceLength = i + 1;
                gone |= bit(s);
            }
        }

        private int nextToGo(Plan plan, Now now, int gone) {
            for (int s = 0; s < MOST_STATIONS; s++) {
                if (has(movers & ~gone, s) && mayGo(plan, now, gone, s)) {
                    return s;
                }
            }
            return NONE;
        }

        private boolean mayGo(Plan plan, Now now, int gone, int s) {
            if (s < 0 || s >= MOST_STATIONS) {
                return false;
            }
            for (int t = 0; t < MOST_STATIONS; t++) {
                int channel = has(gone, t) ? row[t] : now.channel[t];
                if (has(now.air, t) && plan.disturb(s, row[s], t, channel)) {
                    return false;
                }
            }
            return true;
        }

        /** Squeezes step by step from a first count of channels down to a last one. */
        boolean goDown(Now now, int first, int last) {
            allMoves = 0;
            mostMoves = 0;
            for (int s = 0; s < MOST_STATIONS; s++) {
                row[s] = now.channel[s];
            }
            for (int m = first; m >= last; m--) {
                if (!findRow(now.air, row, m)) {
                    return false;
                }
                int moves = Integer.bitCount(movers);
                allMoves += moves;
                mostMoves = Math.max(mostMoves, moves);
            }
            return true;
        }

        int movedAtLast(Now now) {
            int count = 0;
            for (int s = 0; s < MOST_STATIONS; s++) {
                if (has(now.air, s) && row[s] != now.channel[s]) {
                    count++;
                }
            }
            return count;
        }
    }
}
