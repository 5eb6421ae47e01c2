import java.lang.reflect.InvocationTargetException;
import java.lang.reflect.Method;
import java.lang.reflect.Modifier;
import java.util.ArrayList;
import java.util.Arrays;
import java.util.Comparator;
import java.util.List;
import java.util.NoSuchElementException;
import java.util.Random;
import java.util.Set;

/**
 * Drawn calls with wild arguments and wild texts: none throws, but for rests what the document says, and questions change nothing:
 * of two objects that do the same, only one is asked, and all that both do and are stays alike.
 */
public final class StoneSecretsAnyArguments extends StoneSecretsChecks {
    private static final int RUNS = 2000;
    /** With what is fed and the last look at all, an object stays below its 512 calls. */
    private static final int STEPS = 150;
    private static final Set<String> CHANGING = Set.of("feed", "valley", "year", "tell", "sets", "take", "week", "undo", "see", "mark");
    private static final int[] WILD = {Integer.MIN_VALUE, Integer.MIN_VALUE + 1, -33, -32, -31, -2, -1, 6, 7, 8, 9, 10, 16, 30, 31, 32, 33, 60,
        61, 63, 64, 99, 100, 9999, 10000, Integer.MAX_VALUE - 1, Integer.MAX_VALUE};
    private static final String[] SCRAPS = {"wall", "soul", "secret", "due", "hurts", "frost", "falls", "week", "tell", "set", "take", "plain",
        "boy", "priest", "lord", "not", "and", "or", "weight", "cold", "beside", "date", "a", "b", "f", "abcdefgh", "abcdefghi", "0", "3", "9",
        "10", "21", "61", "9999", "12345", "(", ")", "<", "=", "+", "-", "*", ";", " ", "\n", "?", "A"};
    private static final String[] KINDS = {"plain", "boy", "priest", "lord"};
    private static final String[] LAWS = {"", "falls 0;", "falls beside = 1 and cold < 9;", "falls not (weight - date * 9999 * 9999 < cold);",
        "falls date = 2 or (weight < beside * cold);"};

    private static List<Method> face() {
        List<Method> methods = new ArrayList<>();
        for (Method method : StoneSecrets.class.getDeclaredMethods()) {
            if (Modifier.isPublic(method.getModifiers())) {
                methods.add(method);
            }
        }
        methods.sort(Comparator.comparing(Method::getName));
        return methods;
    }

    private static String drawnValley(Random random) {
        StringBuilder text = new StringBuilder("wall " + (1 + random.nextInt(8)) + ";");
        int souls = random.nextInt(7);
        for (int soul = 0; soul < souls; soul++) {
            text.append("soul ").append((char) ('a' + soul)).append(' ').append(KINDS[random.nextInt(4)])
                .append(" secret ").append(random.nextInt(21)).append(" due ").append(random.nextInt(5)).append(";");
        }
        if (souls > 1) {
            text.append("hurts a b; ");
        }
        return text + "frost " + random.nextInt(10) + " " + random.nextInt(10) + ";" + LAWS[random.nextInt(LAWS.length)];
    }

    private static String drawnScraps(Random random) {
        StringBuilder text = new StringBuilder();
        int scraps = random.nextInt(40);
        for (int i = 0; i < scraps; i++) {
            text.append(SCRAPS[random.nextInt(SCRAPS.length)]).append(random.nextBoolean() ? " " : "");
        }
        return text.toString();
    }

    private static Object drawn(Random random, Class<?> type) {
        if (type == long.class) {
            return random.nextLong();
        }
        if (type == boolean.class) {
            return random.nextBoolean();
        }
        return random.nextInt(3) == 0 ? WILD[random.nextInt(WILD.length)] : random.nextInt(6);
    }

    private static Object[] drawnArguments(Random random, Method method) {
        Object[] arguments = new Object[method.getParameterCount()];
        for (int i = 0; i < arguments.length; i++) {
            arguments[i] = drawn(random, method.getParameterTypes()[i]);
        }
        return arguments;
    }

    private static String answer(StoneSecrets x, Method method, Object[] arguments) throws IllegalAccessException {
        try {
            return String.valueOf(method.invoke(x, arguments));
        } catch (InvocationTargetException e) {
            boolean told = method.getName().equals("rests") && e.getCause().getClass() == NoSuchElementException.class;
            due(method.getName() + Arrays.toString(arguments) + " throws " + e.getCause(), told, true);
            return "thrown";
        }
    }

    private static String all(StoneSecrets x) {
        StringBuilder text = new StringBuilder();
        for (int what = 0; what <= 13; what++) {
            text.append(x.count(what)).append(' ');
        }
        for (int soul = 0; soul < 6; soul++) {
            for (int what = 0; what <= 5; what++) {
                text.append(x.soul(soul, what)).append(' ');
            }
        }
        return text.append(x.judged(0)).append(' ').append(x.judged(1)).append(' ').append(x.fit()).toString();
    }

    /** Half of the runs begin with a VALLEY and its stones about; later on most texts are wild. */
    private static void begin(Random random, StoneSecrets... both) {
        String text = drawnValley(random);
        int places = random.nextInt(8);
        for (StoneSecrets x : both) {
            valley(x, text);
            tellAll(x);
            for (int soul = 0; soul < 4; soul++) {
                x.sets(soul, soul * 2 + places & 7);
            }
        }
    }

    private static void run(int number, List<Method> face) throws IllegalAccessException {
        about("run " + number);
        Random random = new Random(number);
        StoneSecrets asked = new StoneSecrets();
        StoneSecrets unasked = new StoneSecrets();
        if (random.nextBoolean()) {
            begin(random, asked, unasked);
        }
        for (int step = 0; step < STEPS; step++) {
            if (random.nextInt(12) == 0) {
                String text = random.nextInt(4) == 0 ? drawnValley(random) : drawnScraps(random);
                due("feed", feedAll(asked, text), feedAll(unasked, text));
            }
            Method method = face.get(random.nextInt(face.size()));
            Object[] arguments = drawnArguments(random, method);
            String answer = answer(asked, method, arguments);
            if (CHANGING.contains(method.getName())) {
                due(method.getName() + Arrays.toString(arguments), answer(unasked, method, arguments), answer);
            }
        }
        due("all that is", all(asked), all(unasked));
    }

    public static void main(String[] args) throws IllegalAccessException {
        List<Method> face = face();
        for (int number = 0; number < RUNS; number++) {
            run(number, face);
        }
        end();
    }
}
