import java.lang.reflect.InvocationTargetException;
import java.lang.reflect.Method;
import java.lang.reflect.Modifier;
import java.util.ArrayList;
import java.util.Arrays;
import java.util.Comparator;
import java.util.List;
import java.util.Random;
import java.util.Set;

/** Wild arguments in drawn states: no call throws, questions and refused calls change nothing, no yard is lost. */
public final class WildCallsTest {
    private static final Check CHECK = new Check("WildCallsTest");
    private static final Set<String> CHANGING = Set.of("feed", "land", "lay", "back", "takeIn", "setOut", "turn", "rain",
        "hours", "undo", "perform", "season", "restore");
    private static final int[] ODD = {0, 1, 2, 3, 4, 5, 6, 7, 8, 9, 10, 11, 12, 16, 35, 36, 37, 39, 40, 41, 48, 49, 63, 64,
        100, 900, 901, -1, -2, -3, -64, Integer.MAX_VALUE, Integer.MIN_VALUE, Integer.MAX_VALUE - 1, 1 << 16, 1 << 30};

    private static String seen(RibbonRoads r) {
        StringBuilder all = new StringBuilder();
        for (int what = 0; what < 13; what++) {
            all.append(r.count(what)).append(' ');
        }
        for (int k = 0; k < 36; k++) {
            for (int what = 0; what < 5; what++) {
                all.append(r.cell(k, what)).append(' ');
            }
        }
        for (int i = 0; i < 8; i++) {
            for (int what = 0; what < 5; what++) {
                all.append(r.drum(i, what)).append(' ').append(r.traveller(i, what)).append(' ');
            }
            for (int j = 0; j < 16; j++) {
                all.append(r.lies(i, j)).append(' ');
            }
            all.append(r.takes(i, 1)).append(' ');
        }
        return all.toString();
    }

    private static Object wild(Random random, Class<?> type) {
        if (type == boolean.class) {
            return random.nextBoolean();
        }
        int small = random.nextInt(7);
        int some = random.nextInt(3) == 0 ? ODD[random.nextInt(ODD.length)] : small;
        if (type == long.class) {
            return random.nextBoolean() ? random.nextLong() : (Object) (long) (random.nextInt(6) * 1000 + 10 + small);
        }
        return random.nextInt(20) == 0 ? random.nextInt() : some;
    }

    private static RibbonRoads begun(Random random) {
        String[] texts = {"land 6 6;drum 0 0 yards 999;drum 5 5 yards 999;drum 0 5 yards 40;drum 5 0 yards 99;"
            + "drum 2 2 yards 999;drum 3 3 yards 9;takes:(x+y)*(wet-4);may:lies<1 or not x=y;",
            "land 3 3;drum 1 1 yards 30;drum 0 0 yards 30;", "land 2 2;drum 0 0 yards 1;", "land 4 5;rock 1 1;",
            "land 6 2;drum 0 0 yards 300;drum 0 1 yards 300;takes:999*999*999*(x-3);"};
        int which = random.nextInt(texts.length + 1);
        RibbonRoads r = which < texts.length ? Check.told(texts[which]) : new RibbonRoads();
        r.season(random.nextInt(), 40);
        return r;
    }

    private static int allYards(RibbonRoads r) {
        int sum = 0;
        for (int d = 0; d < r.count(2); d++) {
            sum += r.drum(d, 1) + r.drum(d, 4);
        }
        return sum;
    }

    private static List<Method> calls() {
        List<Method> all = new ArrayList<>();
        for (Method m : RibbonRoads.class.getDeclaredMethods()) {
            if (Modifier.isPublic(m.getModifiers())) {
                all.add(m);
            }
        }
        // The machine tells them in no order: the same draws are to give the same calls.
        all.sort(Comparator.comparing(Method::getName));
        return all;
    }

    public static void main(String[] args) throws IllegalAccessException {
        List<Method> calls = calls();
        for (int run = 0; run < 150; run++) {
            Random random = new Random(run);
            RibbonRoads r = begun(random);
            int yards = allYards(r);
            String before = seen(r);
            for (int i = 0; i < 512; i++) {
                Method m = calls.get(random.nextInt(calls.size()));
                Object[] with = new Object[m.getParameterCount()];
                for (int a = 0; a < with.length; a++) {
                    with[a] = wild(random, m.getParameterTypes()[a]);
                }
                long answer;
                try {
                    answer = ((Number) m.invoke(r, with)).longValue();
                } catch (InvocationTargetException e) {
                    CHECK.due(m.getName() + Arrays.toString(with) + " threw " + e.getCause(), 1, 0);
                    continue;
                }
                String after = seen(r);
                boolean mayChange = CHANGING.contains(m.getName()) && (answer >= 0 || m.getName().equals("land"));
                CHECK.due(m.getName() + Arrays.toString(with) + " changed something", mayChange || after.equals(before) ? 0 : 1, 0);
                before = after;
                CHECK.due("yards behind " + m.getName() + Arrays.toString(with), allYards(r), yards);
            }
        }
        CHECK.end();
    }
}
