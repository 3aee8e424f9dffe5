import java.io.IOException;
import java.lang.reflect.Method;
import java.lang.reflect.Modifier;
import java.nio.file.Files;
import java.nio.file.Path;
import java.util.Arrays;
import java.util.Set;
import java.util.TreeSet;
import java.util.regex.Matcher;
import java.util.regex.Pattern;

/** The lines of README.md's example answer as it says, and its table names each call of the face once. */
public final class ReadmeTest {
    private static final Pattern LINE = Pattern.compile("(?m)^x\\.(\\w+)\\((.*?)\\); *// (-?\\w+): ");
    private static final Pattern ROW = Pattern.compile("(?m)^\\| `([^`]*)` \\|");

    public static void main(String[] args) throws ReflectiveOperationException, IOException {
        String page = Files.readString(Path.of(args.length > 0 ? args[0] : ".", "README.md"));
        example(page.substring(page.indexOf("```java"), page.indexOf("```\n\nSets")));
        table(page);
        Check.end();
    }

    private static void example(String lines) throws ReflectiveOperationException {
        ChannelSqueeze x = new ChannelSqueeze();
        Matcher line = LINE.matcher(lines);
        int found = 0;
        while (line.find()) {
            found++;
            String[] told = line.group(2).isEmpty() ? new String[0] : line.group(2).split(", ");
            Method call = callOf(line.group(1));
            Object[] numbers = new Object[told.length];
            for (int i = 0; i < told.length; i++) {
                numbers[i] = call.getParameterTypes()[i] == boolean.class ? (Object) Boolean.valueOf(told[i]) : Integer.valueOf(told[i]);
            }
            Check.text("README: " + line.group(1) + "(" + line.group(2) + ")", call.invoke(x, numbers).toString(), line.group(3));
        }
        Check.same("README: every call of the example is compared", found, lines.lines().filter(l -> l.startsWith("x.")).count());
    }

    private static Method callOf(String name) {
        for (Method m : ChannelSqueeze.class.getMethods()) {
            if (m.getName().equals(name)) {
                return m;
            }
        }
        throw new IllegalStateException("README names a call that isn't there: " + name);
    }

    private static void table(String page) {
        StringBuilder told = new StringBuilder();
        Matcher row = ROW.matcher(page);
        while (row.find()) {
            told.append(row.group(1)).append(' ');
        }
        String[] names = told.toString().trim().split(" ");
        Set<String> face = new TreeSet<>();
        for (Method m : ChannelSqueeze.class.getDeclaredMethods()) {
            if (Modifier.isPublic(m.getModifiers())) {
                face.add(m.getName());
            }
        }
        Check.text("README: the calls of the table", new TreeSet<>(Arrays.asList(names)).toString(), face.toString());
        Check.same("README: the table names a call once", names.length, face.size());
    }
}
