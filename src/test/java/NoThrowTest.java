import java.lang.reflect.InvocationTargetException;
import java.lang.reflect.Method;
import java.lang.reflect.Modifier;
import java.util.Arrays;
import java.util.Comparator;
import java.util.NoSuchElementException;
import java.util.Random;

/** Every method with numbers from all of int, in many states: nothing is thrown but what letter() promises. */
public final class NoThrowTest {
    private static final int[] EDGES = {Integer.MIN_VALUE, Integer.MIN_VALUE + 1, -256, -2, -1, 0, 1, 2, 3, 4, 7, 8, 9, 10, 11, 31, 32, 33,
        60, 63, 64, 99, 100, 127, 128, 255, 256, 511, 700, 701, 999, 1000, 65536, Integer.MAX_VALUE - 1, Integer.MAX_VALUE};
    private static final String[] TEXTS = {
        "channels 1;station a at 0 0 reach 1 on 1 worth 0",
        "channels 10;station a at 0 0 reach 60 on 10 worth 999 not 1,2,3,4,5,6,7,8,9,10;station b at 99 99 reach 60 on 1 worth 0",
        "channels 6;station a at 0 0 reach 9 on 1 worth 9;station b at 5 0 reach 9 on 2 worth 8;station c at 9 0 reach 3 on 3 worth 7;"
            + "station d at 14 0 reach 3 on 4 worth 6;station e at 19 0 reach 3 on 5 worth 5;station f at 24 0 reach 3 on 6 worth 4;"
            + "station g at 29 0 reach 3 on 1 worth 3;station h at 34 0 reach 3 on 2 worth 2;border at 9 9 reach 60 not 6;"
            + "border at 0 0 reach 5 not 1,3;border at 99 0 reach 60 not 2;border at 0 99 reach 60 not 4"};

    public static void main(String[] args) throws IllegalAccessException {
        Method[] methods = ChannelSqueeze.class.getDeclaredMethods();
        Arrays.sort(methods, Comparator.comparing(Method::getName));
        Random random = new Random(3);
        for (int run = 0; run < 300; run++) {
            ChannelSqueeze x = new ChannelSqueeze();
            for (int call = 0; call < 500; call++) {
                if (random.nextInt(70) == 0) {
                    x.text(0);
                    Check.tell(x, TEXTS[random.nextInt(TEXTS.length)]);
                }
                Method m = methods[random.nextInt(methods.length)];
                if (Modifier.isPublic(m.getModifiers())) {
                    oneCall(x, m, random);
                }
            }
        }
        Check.end();
    }

    private static void oneCall(ChannelSqueeze x, Method m, Random random) throws IllegalAccessException {
        Object[] numbers = new Object[m.getParameterCount()];
        for (int i = 0; i < numbers.length; i++) {
            numbers[i] = m.getParameterTypes()[i] == boolean.class ? (Object) random.nextBoolean() : (Object) aNumber(random);
        }
        boolean fair = true;
        try {
            m.invoke(x, numbers);
        } catch (InvocationTargetException e) {
            fair = m.getName().equals("letter") && e.getCause().getClass() == NoSuchElementException.class;
        }
        Check.isTrue(m.getName() + Arrays.toString(numbers) + " throws nothing else", fair);
    }

    private static int aNumber(Random random) {
        int way = random.nextInt(10);
        return way == 0 ? random.nextInt() : way < 4 ? EDGES[random.nextInt(EDGES.length)] : random.nextInt(9);
    }
}
