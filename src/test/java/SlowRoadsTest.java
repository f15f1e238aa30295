import java.lang.reflect.InvocationTargetException;
import java.lang.reflect.Method;
import java.util.ArrayList;
import java.util.LinkedHashMap;
import java.util.List;
import java.util.Map;
import java.util.Random;

/** All promises: runs of drawn calls, answered by RibbonRoads as by SlowRoads. */
public final class SlowRoadsTest {
    private static final int RUNS = 400;
    private static final int CALLS = 500;

    /** What the arguments of a call mean, and how often it is drawn. */
    private static final String[] CALLS_BY_NAME = {
        "fault what 1", "cell cell what 6", "drum drum what 4", "lies drum place 3", "traveller traveller what 5",
        "takes drum cell 3", "why drum turn 4", "lay drum turn over 40", "back drum 8", "takeIn drum 24", "setOut drum 14",
        "turn crossing 6", "rain wet 4", "hours hours 14", "undo undo 6", "judge tray what 8", "perform tray 5",
        "season seed times 3", "reach drum 4", "fewest drum cell 10", "way drum cell place 14", "ways drum cell ways 10",
        "crossings drum cell 10", "needed drum cell 6", "farthest drum 3", "above drum 3", "ahead drum 3",
        "order place 4", "stuck 3", "twists 2", "orders 2", "arrives traveller 4", "waits traveller 4", "allIn 2",
        "free drum 4", "busiest 4", "wouldArrive drum 4", "faded tray drum 3", "manyFaded tray drum 2",
        "look tray drum 4", "numbers tray sort size 3", "write tray place deed 10", "lists tray drum cell 4",
        "image image 1", "restore image 1", "count what 8", "feed int int int int int 1", "land size 1",
    };

    private static final Check CHECK = new Check("SlowRoadsTest");

    private final Random random;
    private final RibbonRoads fast = new RibbonRoads();
    private final SlowRoads slow = new SlowRoads();
    private final List<String> told = new ArrayList<>();
    private int nesting = 3;

    private SlowRoadsTest(long seed) {
        random = new Random(seed);
    }

    private static final Map<String, Method[]> METHODS = new LinkedHashMap<>();

    private static Method[] methods(String name) {
        return METHODS.computeIfAbsent(name, n -> {
            for (Method m : RibbonRoads.class.getDeclaredMethods()) {
                if (m.getName().equals(n)) {
                    try {
                        return new Method[] {m, SlowRoads.class.getDeclaredMethod(n, m.getParameterTypes())};
                    } catch (NoSuchMethodException e) {
                        throw new IllegalStateException(e);
                    }
                }
            }
            throw new IllegalStateException("no " + n);
        });
    }

    private static long answer(Method m, Object on, Object[] args) {
        try {
            return ((Number) m.invoke(on, args)).longValue();
        } catch (IllegalAccessException | InvocationTargetException e) {
            throw new IllegalStateException(m.getName() + List.of(args), e);
        }
    }

    private long call(String name, Object... args) {
        Method[] both = methods(name);
        long got = answer(both[0], fast, args);
        long want = answer(both[1], slow, args);
        StringBuilder row = new StringBuilder(name).append('(');
        for (Object arg : args) {
            row.append(row.charAt(row.length() - 1) == '(' ? "" : ", ").append(arg);
        }
        row.append(") = ").append(want);
        told.add(row.toString());
        CHECK.due(row.toString(), got, want);
        if (got != want) {
            told.forEach(r -> System.out.println("    " + r));
        }
        return want;
    }

    private boolean oneIn(int n) {
        return random.nextInt(n) == 0;
    }

    private int wild(int most) {
        int[] odd = {-1, -2, most, most + 1, 40, 41, 1000, Integer.MIN_VALUE, Integer.MAX_VALUE, random.nextInt()};
        return oneIn(12) ? odd[random.nextInt(odd.length)] : random.nextInt(Math.max(1, most));
    }

    private Object drawn(String meaning, Class<?> type) {
        int cells = slow.count(0) * slow.count(1);
        int drums = slow.count(2);
        return switch (meaning) {
            case "what" -> wild(13) % (oneIn(3) ? 14 : 5);
            case "cell" -> wild(cells);
            case "crossing" -> {
                for (int k = 0; k < cells; k++) {
                    if (slow.cell(k, 1) == 2 && oneIn(2)) {
                        yield k;
                    }
                }
                yield wild(cells);
            }
            case "drum" -> wild(drums);
            case "place" -> oneIn(2) ? wild(5) : wild(17);
            case "traveller" -> wild(slow.count(6));
            case "turn" -> 1 + wild(4);
            case "over" -> random.nextBoolean();
            case "wet" -> wild(10);
            case "hours" -> oneIn(4) ? wild(49) : 1 + random.nextInt(2);
            case "undo" -> oneIn(4) ? wild(11) : 1;
            case "tray" -> oneIn(2) ? 0 : wild(4);
            case "sort" -> wild(4);
            case "size" -> oneIn(2) ? wild(4) : wild(41);
            case "seed" -> random.nextInt();
            case "times" -> oneIn(2) ? 1 + random.nextInt(3) : wild(41);
            case "ways" -> wild(9);
            case "image" -> wild(2);
            case "deed" -> deed(cells, drums);
            default -> random.nextInt();
        };
    }

    private long deed(int cells, int drums) {
        int d = drums == 0 ? 0 : random.nextInt(drums);
        return switch (random.nextInt(12)) {
            case 0 -> random.nextLong();
            case 1 -> random.nextInt(9100);
            case 2 -> 9000 + random.nextInt(10);
            case 3 -> 8000 + d;
            case 4 -> 7000 + d;
            case 5 -> 6000 + d;
            case 6 -> -1;
            case 7, 8 -> random.nextInt(cells);
            default -> 1000L * d + 10 * random.nextInt(2) + 1 + random.nextInt(4);
        };
    }

    private String sum(int deep, boolean may) {
        String[] atoms = {"x", "y", "wet", "drum", "1", "2", "3", "007", "999", "lies"};
        StringBuilder all = new StringBuilder();
        int parts = 1 + random.nextInt(3);
        for (int i = 0; i < parts; i++) {
            if (i > 0) {
                all.append(new String[] {"+", "-", "*", " + ", "\n*"}[random.nextInt(5)]);
            }
            all.append(deep < nesting && oneIn(4) ? "(" + sum(deep + 1, may) + ")" : atoms[random.nextInt(may ? 10 : 9)]);
        }
        return all.toString();
    }

    private String truth(int deep) {
        String unit = sum(deep, true) + new String[] {"=", "<", ">"}[random.nextInt(3)] + sum(deep, true);
        if (deep < nesting && oneIn(3)) {
            unit = "[" + truth(deep + 1) + "]";
        }
        if (deep < nesting && oneIn(3)) {
            unit = "not " + unit;
        }
        return deep < nesting && oneIn(2) ? unit + (oneIn(2) ? " or " : " and ") + truth(deep + 1) : unit;
    }

    private String lawful() {
        nesting = oneIn(4) ? 9 : 3;
        return oneIn(2) ? "takes:" + sum(0, false) + ";" : "may:" + truth(0) + (oneIn(3) ? "" : " or lies=0") + ";";
    }

    /** A text whose land has at most some 16 cells that are no rocks. */
    private String text() {
        boolean large = oneIn(4);
        int wide = large ? 2 + random.nextInt(5) : 4 - random.nextInt(8) / 3;
        int high = large ? 2 + random.nextInt(5) : 4 - random.nextInt(8) / 3;
        StringBuilder all = new StringBuilder("land " + wide + " " + high + ";");
        List<Integer> free = new ArrayList<>();
        for (int k = 0; k < wide * high; k++) {
            free.add(k);
        }
        int drums = Math.min(oneIn(8) ? random.nextInt(7) : 1 + random.nextInt(6), free.size() / 3);
        int rocks = Math.max(oneIn(2) ? 0 : random.nextInt(3), free.size() - 16);
        for (int i = 0; i < rocks; i++) {
            int k = free.remove(random.nextInt(free.size()));
            all.append("rock " + k % wide + " " + k / wide + ";");
        }
        for (int i = 0; i < drums; i++) {
            int k = free.remove(random.nextInt(free.size()));
            int yards = oneIn(4) ? random.nextInt(12) : random.nextInt(1000);
            all.append("drum " + k % wide + " " + k / wide + " yards " + yards + ";");
        }
        for (int i = random.nextInt(4); i > 0; i--) {
            all.append(oneIn(2) ? lawful() : oneIn(2) ? "wet " + random.nextInt(10) + ";" : "hour " + random.nextInt(1000) + ";");
        }
        return all.length() > 880 ? "land 3 3;drum 1 1 yards 30;" : all.toString();
    }

    /** A text with some bytes or words put in, taken out, put in place of others. */
    private String spoiled(String text) {
        StringBuilder all = new StringBuilder(text);
        String[] puts = {" ", ";", "1", "(", ")", "[", "]", "not ", "land ", "drum ", "rock 0 0;", "wet", "x", "lies", "?",
            "=", "+", "drum 1 0 yards 3;", "99", "or ", "and ", "((((", "\n", "\t", "\u00ff", ":", "yards"};
        for (int i = 1 + random.nextInt(2); i > 0; i--) {
            int at = random.nextInt(all.length() + 1);
            int to = oneIn(2) ? at : Math.min(all.length(), at + 1 + random.nextInt(4));
            all.replace(at, to, oneIn(3) ? "" : puts[random.nextInt(puts.length)]);
        }
        return all.toString();
    }

    /** Behind the text the tape goes on with what could be read on. */
    private void tell(String text) {
        String rest = "x1;s(0 ";
        for (int at = 0; at < text.length(); at += 20) {
            Object[] five = new Object[5];
            for (int i = 0; i < 5; i++) {
                int four = 0;
                for (int j = 0; j < 4; j++) {
                    int c = at + 4 * i + j;
                    four = four << 8 | (c < text.length() ? text.charAt(c) : rest.charAt(random.nextInt(rest.length())));
                }
                five[i] = four;
            }
            call("feed", five);
        }
        told.add("    as '" + text + "'");
        call("land", text.length());
        call("fault", 0);
        call("fault", 1);
    }

    private void texts() {
        for (int i = 0; i < 40 && CHECK.wrong() == 0; i++) {
            tell(oneIn(5) ? text() : spoiled(text()));
        }
        tell(text());
    }

    /** What makes the call to come one that asks for something. */
    private void prepare(String name) {
        int cells = slow.count(0) * slow.count(1);
        int drums = slow.count(2);
        boolean seen = name.equals("faded") || name.equals("manyFaded") || name.equals("look");
        if (seen || name.equals("judge") || name.equals("perform")) {
            int size = seen ? 1 + random.nextInt(oneIn(4) ? 7 : 2) : random.nextInt(oneIn(4) ? 41 : 6);
            call("numbers", 0, 1 + random.nextInt(3), size);
            for (int i = 0; i < size; i++) {
                call("write", 0, i, seen ? random.nextInt(cells) : deed(cells, drums));
            }
        }
        if (name.equals("lay") && drums > 0) {
            int d = random.nextInt(drums);
            int turn = 1 + random.nextInt(4);
            for (int i = 0; i < 4 && call("why", d, turn) != 0; i++) {
                turn = turn % 4 + 1;
            }
            call("lay", d, turn, random.nextBoolean());
        }
    }

    private void run() {
        if (oneIn(3)) {
            texts();
        }
        tell(text());
        List<String> bag = new ArrayList<>();
        for (String row : CALLS_BY_NAME) {
            int often = Integer.parseInt(row.substring(row.lastIndexOf(' ') + 1));
            for (int i = 0; i < often; i++) {
                bag.add(row);
            }
        }
        for (int i = 0; i < CALLS && CHECK.wrong() == 0; i++) {
            if (oneIn(200)) {
                tell(oneIn(3) ? spoiled(text()) : text());
            }
            String[] words = bag.get(random.nextInt(bag.size())).split(" ");
            if (!oneIn(4)) {
                prepare(words[0]);
            }
            Object[] args = new Object[words.length - 2];
            Class<?>[] types = methods(words[0])[0].getParameterTypes();
            for (int a = 0; a < args.length; a++) {
                args[a] = drawn(words[a + 1], types[a]);
            }
            call(words[0], args);
        }
    }

    private static void allAreDrawn() {
        List<String> names = new ArrayList<>();
        for (String row : CALLS_BY_NAME) {
            names.add(row.split(" ")[0]);
        }
        for (Method m : RibbonRoads.class.getDeclaredMethods()) {
            if (java.lang.reflect.Modifier.isPublic(m.getModifiers())) {
                CHECK.due(m.getName() + " is drawn", names.contains(m.getName()) ? 1 : 0, 1);
            }
        }
    }

    public static void main(String[] args) {
        allAreDrawn();
        for (int i = 0; i < RUNS && CHECK.wrong() == 0; i++) {
            new SlowRoadsTest(i).run();
        }
        CHECK.end();
    }
}
