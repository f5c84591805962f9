import java.lang.reflect.Method;
import java.lang.reflect.Modifier;
import java.util.Arrays;
import java.util.Comparator;
import java.util.Random;

/** Every method with the strangest of numbers, in empty, ordinary and full booths: none may throw, all answer as due. */
public final class EdgeTest {
    private static final int[] STRANGE = {Integer.MIN_VALUE, Integer.MIN_VALUE + 1, -65537, -100, -3, -2, -1, 0, 1, 2, 3, 5, 6, 7, 8,
        9, 10, 15, 16, 19, 20, 23, 24, 25, 26, 31, 32, 33, 63, 64, 99, 100, 255, 299, 300, 301, 65536, 1 << 30, Integer.MAX_VALUE};

    private EdgeTest() { }

    public static void main(String[] args) {
        Method[] methods = SixHands.class.getDeclaredMethods();
        Arrays.sort(methods, Comparator.comparing(Method::getName));
        Random random = new Random(20261117);
        int calls = 0;
        for (int round = 0; round < 60; round++) {
            Pair pair = new Pair(STRANGE[round % STRANGE.length]);
            fill(pair, round % 3);
            for (Method method : methods) {
                if (Modifier.isPublic(method.getModifiers())) {
                    calls += askStrangely(pair, method, random);
                }
            }
            Due.yes("round " + round + ": " + firstWrong(pair), !pair.differs);
        }
        System.out.println(calls + " calls");
        Due.close();
    }

    private static String firstWrong(Pair pair) {
        return pair.told.stream().filter(line -> line.contains(", due ")).findFirst().orElse("all as due");
    }

    /** 0: nothing, 1: some of all, 2: as much as there can be of most. */
    private static void fill(Pair pair, int much) {
        if (much == 0) {
            return;
        }
        for (int i = 0; i < (much == 1 ? 2 : 3); i++) {
            pair.call("puppeteer", i, 7);
        }
        for (int i = 0; i < (much == 1 ? 2 : 6); i++) {
            pair.call("figure", i % 3, 99);
        }
        pair.call("rules", 6, 3);
        pair.read(much == 1 ? "enter 0 at 1;beat;enter 1 at 2;beat;" : "enter 0 at 1;enter 1 at 2;" + "beat;".repeat(24));
        pair.call("played", 0);
        pair.read("may who+figure>=0;pass from#to;shows seat<many;");
        pair.call("by", 1);
        if (much == 2) {
            pair.read("");
            pair.read("beat;");
            pair.put("beat;".repeat(60));
            pair.call("image");
        }
    }

    private static int askStrangely(Pair pair, Method method, Random random) {
        int parameters = method.getParameterCount();
        int times = parameters == 0 ? 1 : parameters == 1 ? STRANGE.length : 60;
        // These leave the booth emptier; a few calls of them are enough.
        if (method.getName().equals("clear") || method.getName().equals("back")) {
            times = 0;
        }
        for (int i = 0; i < times; i++) {
            int[] args = new int[parameters];
            for (int j = 0; j < parameters; j++) {
                args[j] = parameters == 1 ? STRANGE[i] : STRANGE[random.nextInt(STRANGE.length)];
            }
            pair.call(method.getName(), args);
        }
        return times;
    }
}
