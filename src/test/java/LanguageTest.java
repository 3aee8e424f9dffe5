import java.io.IOException;
import java.lang.management.ManagementFactory;
import java.lang.reflect.Constructor;
import java.lang.reflect.Field;
import java.lang.reflect.Method;
import java.lang.reflect.Modifier;
import java.nio.file.Files;
import java.nio.file.Path;
import java.util.Arrays;
import java.util.HashSet;
import java.util.List;
import java.util.Set;
import java.util.TreeSet;
import java.util.regex.Matcher;
import java.util.regex.Pattern;

/** The document's face, and the rules of LANGUAGE.md that can be read off the source or measured. */
public final class LanguageTest {
    private static final String FACE = "feed(int,int,int,int,int)int text(int)int fault()int where()int about(int)int "
        + "station(int,int)int border(int,int)int far(int,int)int near(int,int)int on(int)int free(int)int "
        + "fits(int,int)int rowOf(int,int,int)int rows(int,int)int fewest(int)int proof(int,int)int "
        + "cheapest(int,int)int could(int,int,int)int clock(int,int,int,int)int pay(int,int,int,int)int "
        + "squeeze(int)int squeezeOf(int,int)int order(int,int)int steps(int,int)int due(int,int)int "
        + "heard(int,int,int)int islands(int)int lower(int)int move(int,int,boolean)int buy(int,int)int air(int)int "
        + "lay(int)int clear(int,int,int)int value(int,int)int ban(int,int)int undo()int keep(int)boolean "
        + "back(int)boolean letter(int,int)int bytes()int trouble()int";
    /** What the rules leave out, as patterns in the source without comments and texts. */
    private static final String[] NOT_ALLOWED = {"->", "::", "\\bsynchronized\\b", "\\bassert\\b", "\\bfinally\\b", "\\bcatch\\b",
        "\\btry\\b", "\\bMath\\.[a-zA-Z]*Exact", "\\bSystem\\.(?!arraycopy)", "\\bRandom\\b", "\\bThread\\b", "\\bObject\\b",
        "\\bString *\\[", "\\bvar\\b", "\\bwhile *\\(true\\)", "\\bfor *\\(;;\\)", "\\bdouble\\b", "\\bfloat\\b", "\\blong\\b"};

    public static void main(String[] args) throws IOException {
        String source = Files.readString(Path.of(args.length > 0 ? args[0] : ".", "src/main/java/ChannelSqueeze.java"));
        String code = withoutCommentsAndTexts(source);
        face();
        noNameTwice();
        Check.isTrue("NoSuchElementException is the one import",
            Arrays.equals(lines(code, "^import .*"), new String[] {"import java.util.NoSuchElementException;"}));
        Check.isTrue("no package", lines(code, "^package .*").length == 0);
        for (String pattern : NOT_ALLOWED) {
            Check.isTrue("not allowed: " + pattern, !Pattern.compile(pattern).matcher(code).find());
        }
        sizes();
        methodsAreShort(code);
        noCallMakesAnObject();
        Check.end();
    }

    private static String withoutCommentsAndTexts(String source) {
        return source.replaceAll("(?s)/\\*.*?\\*/", "").replaceAll("//[^\n]*", "").replaceAll("\"[^\"\n]*\"", "\"\"");
    }

    private static String[] lines(String code, String pattern) {
        return code.lines().filter(line -> line.matches(pattern)).toArray(String[]::new);
    }

    private static String shape(Method m) {
        StringBuilder all = new StringBuilder(m.getName()).append('(');
        for (Class<?> p : m.getParameterTypes()) {
            all.append(all.charAt(all.length() - 1) == '(' ? "" : ",").append(p.getName());
        }
        return all.append(')').append(m.getReturnType().getName()).toString();
    }

    private static void face() {
        Set<String> open = new TreeSet<>();
        for (Method m : ChannelSqueeze.class.getDeclaredMethods()) {
            if (!Modifier.isPrivate(m.getModifiers()) && !m.isSynthetic()) {
                Check.isTrue(m.getName() + " is public", Modifier.isPublic(m.getModifiers()));
                open.add(shape(m));
            }
        }
        Check.isTrue("the methods of the face: " + open, open.equals(new TreeSet<>(Arrays.asList(FACE.split(" ")))));
        for (Field f : ChannelSqueeze.class.getDeclaredFields()) {
            Check.isTrue(f.getName() + " is private, or the constant",
                Modifier.isPrivate(f.getModifiers()) || f.getName().equals("NONE") && Modifier.isFinal(f.getModifiers()));
        }
        Constructor<?>[] made = ChannelSqueeze.class.getDeclaredConstructors();
        Check.isTrue("one public constructor",
            made.length == 1 && Modifier.isPublic(made[0].getModifiers()) && made[0].getParameterCount() == 0);
        Check.isTrue("public and final", Modifier.isPublic(ChannelSqueeze.class.getModifiers())
            && Modifier.isFinal(ChannelSqueeze.class.getModifiers()));
        try {
            Class<?>[] thrown = ChannelSqueeze.class.getMethod("letter", int.class, int.class).getExceptionTypes();
            Check.isTrue("letter says what it throws",
                thrown.length == 1 && thrown[0] == java.util.NoSuchElementException.class);
        } catch (NoSuchMethodException e) {
            Check.isTrue("letter is there", false);
        }
    }

    private static List<Class<?>> classes() {
        List<Class<?>> all = new java.util.ArrayList<>(Arrays.asList(ChannelSqueeze.class.getDeclaredClasses()));
        all.add(ChannelSqueeze.class);
        return all;
    }

    private static void noNameTwice() {
        Set<String> names = new HashSet<>();
        for (String m : FACE.split(" ")) {
            names.add(m.substring(0, m.indexOf('(')));
        }
        for (Class<?> c : classes()) {
            for (Method m : c.getDeclaredMethods()) {
                boolean ofTheFace = c == ChannelSqueeze.class && Modifier.isPublic(m.getModifiers());
                Check.isTrue("a name of the face: " + c.getName() + "." + m.getName(), ofTheFace || !names.contains(m.getName()));
            }
        }
    }

    private static void sizes() {
        Check.isTrue("at most twelve classes", classes().size() <= 12);
        for (Class<?> c : classes()) {
            int fields = 0;
            for (Field f : c.getDeclaredFields()) {
                if (!Modifier.isStatic(f.getModifiers())) {
                    fields++;
                } else {
                    Check.isTrue(f.getName() + " is final", Modifier.isFinal(f.getModifiers()));
                }
            }
            Check.isTrue("at most twenty fields: " + c.getName(), fields <= 20);
            Check.isTrue("static: " + c.getName(), c == ChannelSqueeze.class || Modifier.isStatic(c.getModifiers()));
            for (Method m : c.getDeclaredMethods()) {
                Check.isTrue("at most seven parameters: " + m.getName(), m.getParameterCount() <= 7);
            }
        }
    }

    private static void methodsAreShort(String code) {
        String[] rows = code.split("\n", -1);
        Pattern head = Pattern.compile("^( {4}| {8})[a-zA-Z][^=;]*\\([^;]*\\)[^;]*\\{$");
        int found = 0;
        for (int i = 0; i < rows.length; i++) {
            Matcher m = head.matcher(rows[i]);
            if (m.matches()) {
                int end = i;
                while (end < rows.length && !rows[end].equals(m.group(1) + "}")) {
                    end++;
                }
                found++;
                Check.isTrue("short: " + rows[i].trim(), end - i <= 60);
            }
        }
        Check.isTrue("methods were found", found > 60);
    }

    /** All that a run makes stays in one room, so the calls themselves must make nothing. */
    private static void noCallMakesAnObject() {
        com.sun.management.ThreadMXBean threads = (com.sun.management.ThreadMXBean) ManagementFactory.getThreadMXBean();
        String text = "channels 10;station a at 0 0 reach 9 on 9 worth 5;station b at 9 0 reach 9 on 10 worth 6;"
            + "station c at 9 9 reach 9 on 8 worth 7 not 1;border at 9 9 reach 2 not 1,2";
        ChannelSqueeze x = new ChannelSqueeze();
        Check.tell(x, text);
        everyCall(x);
        long least = Long.MAX_VALUE;
        for (int times = 0; times < 5; times++) {
            Check.feed(x, text);
            long before = threads.getCurrentThreadAllocatedBytes();
            x.text(text.length());
            everyCall(x);
            least = Math.min(least, threads.getCurrentThreadAllocatedBytes() - before);
        }
        Check.same("bytes that the calls take", least, 0);
    }

    private static int everyCall(ChannelSqueeze x) {
        int sum = x.feed(1, 2, 3, 4, 5) + x.fault() + x.where() + x.about(4) + x.station(0, 6) + x.border(0, 4) + x.far(0, 1);
        sum += x.near(0, 2) + x.on(9) + x.free(0) + x.fits(7, 5) + x.rowOf(7, 10, 1) + x.rows(7, 10) + x.fewest(7) + x.proof(7, 2);
        sum += x.cheapest(2, 0) + x.could(7, 9, 1) + x.clock(2, 99, 7, 0) + x.pay(2, 99, 7, 0) + x.squeeze(8) + x.squeezeOf(8, 1);
        sum += x.order(8, 1) + x.steps(6, 0) + x.due(2, 0) + x.heard(5, 5, 1) + x.islands(2) + x.lower(1);
        sum += (x.keep(0) ? 1 : 0) + x.move(0, 1, true) + x.buy(1, 5) + x.air(1) + x.lay(9) + x.clear(3, 99, 5) + x.value(0, 3);
        sum += x.ban(0, 3) + x.undo() + (x.back(0) ? 1 : 0) + x.letter(0, 0) + x.bytes() + x.trouble() + x.text(-1);
        return sum;
    }
}
