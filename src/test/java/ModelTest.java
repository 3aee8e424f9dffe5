import java.util.NoSuchElementException;
import java.util.Random;

/** Long runs of calls, drawn by a fixed seed, on the class and on the model: all answers are the same. */
public final class ModelTest {
    private static final int RUNS = Integer.getInteger("runs", 2400);
    /** The document promises 512; a text and what is asked behind it may come on top of these. */
    private static final int CALLS = 460;
    private static final int SEED = Integer.getInteger("seed", 1);

    private final Random random;
    private final ChannelSqueeze x = new ChannelSqueeze();
    private final Model model = new Model();
    private int stations = 0;
    private int channels = 0;
    private int calls = 0;
    private boolean crowded;
    private boolean full;

    private ModelTest(long seed) {
        random = new Random(seed);
    }

    public static void main(String[] args) {
        for (int run = 0; run < RUNS; run++) {
            new ModelTest(1000003L * SEED + run).play(run);
        }
        Check.end();
    }

    private void play(int run) {
        crowded = random.nextInt(3) > 0;
        full = random.nextInt(3) == 0;
        boolean restless = random.nextInt(3) == 0;
        for (int call = 0; calls < CALLS; call++) {
            String what = "run " + run + ", call " + call + ": ";
            if (call == 3 || random.nextInt(restless ? 9 : 60) == 0) {
                tellText(what);
            } else {
                oneCall(what);
            }
            Check.same(what + "trouble()", x.trouble(), model.trouble());
            Check.same(what + "fault()", x.fault(), model.fault());
            Check.same(what + "where()", x.where(), model.where());
            Check.same(what + "bytes()", x.bytes(), model.bytes());
            calls += 5;
        }
    }

    // ---- texts

    private int up(int bound) {
        return random.nextInt(bound);
    }

    private void tellText(String what) {
        String text = up(8) == 0 ? spoiled(someText()) : someText();
        feedBoth(what, text);
        int n = up(12) == 0 ? up(text.length() + 40) - 10 : text.length();
        int got = x.text(n);
        Check.same(what + "text(" + n + ") of " + text, got, model.text(n));
        if (got > 0) {
            stations = got;
            channels = x.about(0);
            model.about(0);
        }
    }

    private void feedBoth(String what, String text) {
        StringBuilder padded = new StringBuilder(text);
        while (padded.length() % 20 != 0) {
            padded.append(' ');
        }
        for (int from = 0; from < padded.length(); from += 20) {
            calls++;
            int[] five = new int[5];
            for (int i = 0; i < 20; i++) {
                five[i / 4] |= (padded.charAt(from + i) & 255) << (24 - 8 * (i % 4));
            }
            Check.same(what + "feed", x.feed(five[0], five[1], five[2], five[3], five[4]),
                model.feed(five[0], five[1], five[2], five[3], five[4]));
        }
    }

    private String someText() {
        int count = full ? 8 - up(3) : 1 + up(8);
        int most = full ? 10 - up(5) : 1 + up(10);
        while (!full && Math.pow(most, count) > 4000) {
            if (up(2) == 0) {
                most = Math.max(1, most - 1);
            } else {
                count = Math.max(1, count - 1);
            }
        }
        StringBuilder text = new StringBuilder("channels " + most);
        int wide = crowded ? 30 : 100;
        int told = 0;
        int borders = up(4) == 0 ? up(5) : up(2);
        while (told < count || borders > 0) {
            text.append(up(5) == 0 ? " ; " : ";");
            if (borders > 0 && up(4) == 0 || told == count) {
                borders--;
                text.append("border at " + up(wide) + " " + up(wide) + " reach " + (1 + up(crowded ? 15 : 40)) + " not ");
                channelsOnce(text, most);
            } else {
                String name = "" + (char) ('a' + told) + (up(3) == 0 ? "xy" : "");
                text.append("station " + name + " at " + up(wide) + " " + up(wide) + " reach " + (1 + up(crowded ? 14 : 30)));
                text.append(" on " + (1 + up(most)) + " worth " + (up(3) == 0 ? up(4) : up(1000)));
                if (up(4) == 0) {
                    text.append(" not ");
                    channelsOnce(text, most);
                }
                told++;
            }
        }
        return text.toString();
    }

    private void channelsOnce(StringBuilder text, int most) {
        int from = 1 + up(most);
        int to = Math.min(most, from + up(3));
        for (int c = from; c <= to; c++) {
            text.append(c > from ? "," : "").append(c);
        }
    }

    private String spoiled(String text) {
        String[] pieces = {" ", ";", ",", "0", "1", "11", "100", "1000", "a", "at", "not", "station ", "border ", "channels ",
            "reach", "worth", "on", "abcdefgh", "abcdefghi", "A", "\n", "\u00e9", "\u0000", "-", ";border at 1 1 reach 2 not 1"};
        StringBuilder changed = new StringBuilder(text);
        for (int times = up(2); times >= 0; times--) {
            int at = up(changed.length() + 1);
            int way = up(4);
            if (way == 0) {
                changed.delete(at, Math.min(changed.length(), at + 1 + up(6)));
            } else if (way == 1) {
                changed.insert(at, pieces[up(pieces.length)]);
            } else if (way == 2) {
                changed.setLength(Math.max(1, at));
            } else {
                int from = up(changed.length() + 1);
                changed.insert(at, changed.substring(Math.min(from, at), Math.max(from, at)));
            }
        }
        if (changed.length() > 640) {
            changed.setLength(640);
        }
        return changed.length() == 0 ? " " : changed.toString();
    }

    // ---- calls

    private int aStation() {
        return up(20) == 0 ? up(12) - 2 : up(Math.max(1, stations));
    }

    private int aChannel() {
        return up(20) == 0 ? up(14) - 1 : 1 + up(Math.max(1, channels));
    }

    private int aSet() {
        if (up(20) == 0) {
            return up(600) - 100;
        }
        return up(3) == 0 ? (1 << stations) - 1 : up(1 << stations);
    }

    private int aPrice() {
        return up(20) == 0 ? up(3) - 1 : up(12) == 0 ? 998 + up(4) : up(3) == 0 ? up(6) : up(1000);
    }

    private int aStep() {
        return up(20) == 0 ? -up(3) : up(12) == 0 ? 998 + up(4) : up(2) == 0 ? 1 + up(20) : 1 + up(999);
    }

    private void same(String what, int got, int want) {
        Check.same(what, got, want);
    }

    private void oneCall(String w) {
        switch (up(4)) {
            case 0: askWhatIsTold(w); break;
            case 1: askWhatFits(w); break;
            case 2: askTheRest(w); break;
            default: act(w);
        }
    }

    private void askWhatIsTold(String w) {
        int s = aStation(), t = aStation(), c = aChannel(), what = up(10) - (up(9) == 0 ? 1 : 0);
        switch (up(9)) {
            case 0: same(w + "about " + what, x.about(what), model.about(what)); break;
            case 1: same(w + "station " + s + " " + what, x.station(s, what), model.station(s, what)); break;
            case 2: t = up(6) - 1; same(w + "border " + t + " " + what / 2, x.border(t, what / 2), model.border(t, what / 2)); break;
            case 3: same(w + "far " + s + " " + t, x.far(s, t), model.far(s, t)); break;
            case 4: same(w + "near " + s + " " + what / 2, x.near(s, what / 2), model.near(s, what / 2)); break;
            case 5: same(w + "on " + c, x.on(c), model.on(c)); break;
            case 6: same(w + "free " + s, x.free(s), model.free(s)); break;
            case 7: same(w + "lower " + s, x.lower(s), model.lower(s)); break;
            default: same(w + "letter " + s + " " + what, letterOf(s, what), modelLetterOf(s, what));
        }
    }

    private int letterOf(int s, int i) {
        try {
            return x.letter(s, i);
        } catch (NoSuchElementException e) {
            return -99;
        }
    }

    private int modelLetterOf(int s, int i) {
        try {
            return model.letter(s, i);
        } catch (NoSuchElementException e) {
            return -99;
        }
    }

    private void askWhatFits(String w) {
        int set = aSet(), m = aChannel(), s = aStation(), what = up(20) == 0 ? up(5) - 1 : up(2);
        if (up(3) > 0 && s >= 0) {
            set |= 1 << s;
        }
        String all = " " + set + " " + m + " " + s;
        switch (up(8)) {
            case 0: same(w + "fits" + all, x.fits(set, m), model.fits(set, m)); break;
            case 1: same(w + "rowOf" + all, x.rowOf(set, m, s), model.rowOf(set, m, s)); break;
            case 2: same(w + "rows" + all, x.rows(set, m), model.rows(set, m)); break;
            case 3: same(w + "fewest" + all, x.fewest(set), model.fewest(set)); break;
            case 4: same(w + "proof" + all, x.proof(set, m), model.proof(set, m)); break;
            case 5: same(w + "cheapest " + m + " " + what, x.cheapest(m, what), model.cheapest(m, what)); break;
            case 6: same(w + "could" + all, x.could(set, m, s), model.could(set, m, s)); break;
            default: same(w + "due" + all, x.due(m, s), model.due(m, s));
        }
    }

    private void askTheRest(String w) {
        int m = aChannel(), s = aStation(), price = aPrice(), step = aStep(), what = up(20) == 0 ? up(8) - 2 : up(5);
        int px = up(20) == 0 ? up(120) - 10 : up(crowded ? 30 : 100), py = up(20) == 0 ? up(120) - 10 : up(crowded ? 30 : 100);
        String all = " " + m + " " + price + " " + step + " " + s + " " + what;
        switch (up(8)) {
            case 0: same(w + "clock" + all, x.clock(m, price, step, what), model.clock(m, price, step, what)); break;
            case 1: same(w + "pay" + all, x.pay(m, price, step, s), model.pay(m, price, step, s)); break;
            case 2: same(w + "squeeze" + all, x.squeeze(m), model.squeeze(m)); break;
            case 3: same(w + "squeezeOf" + all, x.squeezeOf(m, s), model.squeezeOf(m, s)); break;
            case 4: same(w + "order" + all, x.order(m, what), model.order(m, what)); break;
            case 5: same(w + "steps" + all, x.steps(m, what / 2), model.steps(m, what / 2)); break;
            case 6: same(w + "heard " + px + " " + py + all, x.heard(px, py, what / 2), model.heard(px, py, what / 2)); break;
            default: same(w + "islands" + all, x.islands(what / 2), model.islands(what / 2));
        }
    }

    private void act(String w) {
        int m = aChannel(), s = aStation(), v = aPrice(), step = aStep(), i = up(10) == 0 ? up(5) - 2 : up(2);
        boolean forced = up(2) == 0;
        String all = " " + s + " " + m + " " + v + " " + step + " " + i + " " + forced;
        switch (up(12)) {
            case 0: same(w + "move" + all, x.move(s, m, forced), model.move(s, m, forced)); break;
            case 1: same(w + "move" + all, x.move(s, m, forced), model.move(s, m, forced)); break;
            case 2: same(w + "buy" + all, x.buy(s, v), model.buy(s, v)); break;
            case 3: same(w + "air" + all, x.air(s), model.air(s)); break;
            case 4: same(w + "air" + all, x.air(s), model.air(s)); break;
            case 5: same(w + "lay" + all, x.lay(m), model.lay(m)); break;
            case 6:
                if (up(3) == 0) {
                    same(w + "clear" + all, x.clear(m, v, step), model.clear(m, v, step));
                }
                break;
            case 7: same(w + "value" + all, x.value(s, v), model.value(s, v)); break;
            case 8: same(w + "ban" + all, x.ban(s, m), model.ban(s, m)); break;
            case 9: same(w + "undo", x.undo(), model.undo()); break;
            case 10: Check.isTrue(w + "keep" + all, x.keep(i) == model.keep(i)); break;
            default: Check.isTrue(w + "back" + all, x.back(i) == model.back(i));
        }
    }
}
