import java.lang.reflect.InvocationTargetException;
import java.lang.reflect.Method;
import java.lang.reflect.Modifier;
import java.util.ArrayList;
import java.util.Arrays;
import java.util.Comparator;
import java.util.List;
import java.util.NoSuchElementException;
import java.util.function.Supplier;

/** Runs tests of one sentence each, and has what these share. */
final class Edges {
    interface Call {
        int on(ChannelSqueeze x);
    }

    static final int THROWN = -99;
    static final int MIN = Integer.MIN_VALUE;
    static final int MAX = Integer.MAX_VALUE;
    /** a clashes with bb, bb with c; nobody brushes; the border takes channel 3 from a. */
    static final String THREE = "channels 4;station a at 0 0 reach 10 on 1 worth 30;"
        + "station bb at 15 0 reach 10 on 2 worth 20 not 4;station c at 30 0 reach 10 on 4 worth 10;"
        + "border at 0 5 reach 5 not 3";
    static final String ONE = "channels 3;station a at 0 0 reach 1 on 1 worth 0";

    private Edges() {
    }

    /** The tests of a class: its methods that quote a sentence, by name, p and the promise's number ahead. */
    static List<Method> testsOf(Class<?> tests) {
        List<Method> found = new ArrayList<>();
        for (Method m : tests.getDeclaredMethods()) {
            if (m.isAnnotationPresent(Says.class)) {
                found.add(m);
            }
        }
        found.sort(Comparator.comparing(Method::getName));
        return found;
    }

    static int promiseOf(Method test) {
        String name = test.getName();
        return name.matches("p[0-9][0-9][A-Z].*") ? Integer.parseInt(name.substring(1, 3)) : 0;
    }

    static void run(Class<?> tests) {
        for (Method test : testsOf(tests)) {
            Check.begin("promise " + promiseOf(test) + ", " + test.getName() + ": ");
            int before = Check.asked();
            runOne(test);
            Check.isTrue("the test asks something", Check.asked() > before);
        }
        for (Method m : tests.getDeclaredMethods()) {
            boolean named = m.getName().matches("p[0-9].*");
            Check.isTrue(m.getName() + " quotes its sentence", !named || m.isAnnotationPresent(Says.class));
        }
        Check.begin("");
        Check.end();
    }

    private static void runOne(Method test) {
        try {
            if (!Modifier.isStatic(test.getModifiers())) {
                throw new IllegalStateException(test.getName() + " isn't static");
            }
            test.setAccessible(true);
            test.invoke(null);
        } catch (InvocationTargetException e) {
            Check.isTrue("nothing is thrown, but: " + e.getCause() + " " + Arrays.toString(e.getCause().getStackTrace()), false);
        } catch (IllegalAccessException e) {
            Check.isTrue("the test can be called", false);
        }
    }

    // ---- objects

    static ChannelSqueeze fresh() {
        return new ChannelSqueeze();
    }

    /** Three stations with acts that can be undone, two images, bytes on the tape, and a price paid. */
    static ChannelSqueeze rich() {
        ChannelSqueeze x = Check.told(THREE);
        x.value(0, 31);
        x.keep(0);
        x.buy(2, 7);
        x.ban(1, 3);
        x.keep(1);
        x.move(0, 4, true);
        x.value(1, 21);
        Check.feed(x, "channels ?");
        return x;
    }

    /** Stations at one place, all of whom clash and brush, on channel 1 of so many. */
    static ChannelSqueeze heap(int channels, int... worths) {
        StringBuilder text = new StringBuilder("channels " + channels);
        for (int s = 0; s < worths.length; s++) {
            text.append(";station ").append((char) ('a' + s)).append(" at 1 1 reach 1 on 1 worth ").append(worths[s]);
        }
        return Check.told(text.toString());
    }

    /** Stations none of whom clash, on channel 1 of so many. */
    static ChannelSqueeze apart(int channels, int... worths) {
        StringBuilder text = new StringBuilder("channels " + channels);
        for (int s = 0; s < worths.length; s++) {
            text.append(";station ").append((char) ('a' + s)).append(" at ").append(9 * s).append(" 0 reach 1 on 1 worth ").append(worths[s]);
        }
        return Check.told(text.toString());
    }

    /** Two stations, a at 0 0 and b where it is told, both on channel 1 of 5. */
    static ChannelSqueeze pair(int reach, int x, int y, int other) {
        return Check.told("channels 5;station a at 0 0 reach " + reach + " on 1 worth 1;station b at " + x + " " + y
            + " reach " + other + " on 1 worth 1");
    }

    static void banAllBut(ChannelSqueeze x, int s, int... channels) {
        for (int c = 1; c <= x.about(0); c++) {
            int wanted = c;
            if (Arrays.stream(channels).noneMatch(k -> k == wanted)) {
                x.ban(s, c);
            }
        }
    }

    // ---- what is due

    static int letterOf(ChannelSqueeze x, int s, int i) {
        try {
            return x.letter(s, i);
        } catch (NoSuchElementException e) {
            return THROWN;
        }
    }

    /** A refused call: NONE, its trouble, no place; and nothing else is other than without the call. */
    static void refused(int trouble, String name, Supplier<ChannelSqueeze> made, Call call) {
        ChannelSqueeze x = made.get();
        Check.refuses(x, name, call.on(x), trouble);
        Check.text("all that is there behind " + name, all(x), all(made.get()));
    }

    /** A call that isn't refused and is no act: its answer, and nothing is other than without it. */
    static void asks(int want, String name, Supplier<ChannelSqueeze> made, Call call) {
        ChannelSqueeze x = made.get();
        Check.gives(x, name, call.on(x), want);
        Check.text("all that is there behind " + name, all(x), all(made.get()));
    }

    /** All that later calls could tell but trouble() and where(); the object is spent then. */
    static String all(ChannelSqueeze x) {
        StringBuilder all = new StringBuilder();
        all.append(x.bytes()).append(" bytes, fault ").append(x.fault()).append(", told");
        int stations = x.about(1);
        for (int what = 0; what <= 2; what++) {
            all.append(' ').append(x.about(what));
        }
        for (int s = 0; s < stations; s++) {
            all.append("; station ").append(letterOf(x, s, 0)).append(' ').append(letterOf(x, s, 1));
            for (int what : new int[] {0, 1, 2, 6}) {
                all.append(' ').append(x.station(s, what));
            }
        }
        for (int b = 0; b < x.about(2); b++) {
            for (int what = 0; what <= 4; what++) {
                all.append(what == 0 ? "; border " : " ").append(x.border(b, what));
            }
        }
        now(all.append("; now "), x, stations);
        for (int times = 0; times <= 10 && x.undo() >= 0; times++) {
            now(all.append("; undone "), x, stations);
        }
        for (int i = 0; i <= 1; i++) {
            now(all.append("; back ").append(x.back(i)).append(' '), x, stations);
        }
        all.append("; tape ").append(x.text(x.bytes())).append(' ').append(x.fault()).append(' ').append(x.where());
        return all.toString();
    }

    private static void now(StringBuilder all, ChannelSqueeze x, int stations) {
        all.append(x.about(3)).append(' ').append(x.about(6)).append(' ').append(x.about(8));
        for (int s = 0; s < stations; s++) {
            all.append(' ').append(x.station(s, 3)).append(' ').append(x.station(s, 4)).append(' ').append(x.station(s, 7));
        }
    }

    /** The place of the fault is marked by | in the text. */
    static void faulty(int fault, String marked) {
        int place = marked.indexOf('|');
        String text = marked.replace("|", "");
        ChannelSqueeze x = fresh();
        Check.same("text() of " + marked, Check.tell(x, text), -1);
        Check.same("trouble() of " + marked, x.trouble(), 4);
        Check.same("fault() of " + marked, x.fault(), fault);
        Check.same("where() of " + marked, x.where(), place);
    }

    static ChannelSqueeze taken(int stations, String text) {
        ChannelSqueeze x = fresh();
        Check.gives(x, "text() of " + text, Check.tell(x, text), stations);
        Check.same("fault() of " + text, x.fault(), 0);
        return x;
    }
}
