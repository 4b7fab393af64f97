import java.lang.reflect.InvocationTargetException;
import java.lang.reflect.Method;
import java.util.ArrayList;
import java.util.Arrays;
import java.util.List;
import java.util.Random;

/**
 * Compares HintTeam with the plain Model in long runs of calls. The runs are the same each time; a number of
 * runs, and a first one, may be given.
 */
public final class ModelTest {
    private static final int CALLS = 512;
    private static final String[] SEARCHES = {"value", "positions", "valueBehind", "bestMove"};
    private static final String[] TURNS = {"play", "discard", "hint", "pass", "follow", "undo"};

    private final Random random;
    private final HintTeam team = new HintTeam();
    private final Model model = new Model();
    private final List<String> calls = new ArrayList<>();
    private final int searchPercent;
    private int wrong;

    private ModelTest(long seed) {
        random = new Random(seed);
        searchPercent = random.nextInt(4) == 0 ? 12 : 2;
    }

    public static void main(String[] args) throws Exception {
        int runs = args.length > 0 ? Integer.parseInt(args[0]) : 150;
        int first = args.length > 1 ? Integer.parseInt(args[1]) : 1;
        int wrong = 0;
        for (int seed = first; seed < first + runs && wrong < 5; seed++) {
            wrong += new ModelTest(seed).run(seed);
        }
        System.out.println(wrong == 0 ? "ModelTest: " + runs + " runs agree" : "ModelTest: runs do not agree");
        if (wrong != 0) {
            System.exit(1);
        }
    }

    private int run(int seed) throws Exception {
        for (int k = 0; calls.size() < CALLS && wrong == 0; k++) {
            if (k == 0 ? random.nextInt(8) != 0 : random.nextInt(70) == 0) {
                describe();
            } else {
                callAny();
            }
        }
        if (wrong != 0) {
            System.out.println("run " + seed + ":");
            for (String call : calls) {
                System.out.println("  " + call);
            }
        }
        return wrong;
    }

    private void callAny() throws Exception {
        int dice = random.nextInt(100);
        if (dice < searchPercent) {
            call(SEARCHES[random.nextInt(SEARCHES.length)]);
        } else if (dice < 40) {
            call(TURNS[random.nextInt(TURNS.length)]);
        } else {
            Method[] all = HintTeam.class.getDeclaredMethods();
            Arrays.sort(all, (a, b) -> a.getName().compareTo(b.getName()));
            Method any = all[random.nextInt(all.length)];
            boolean isRare = Arrays.asList(SEARCHES).contains(any.getName()) || List.of("load", "restoreSnapshot",
                    "append").contains(any.getName());
            if (java.lang.reflect.Modifier.isPublic(any.getModifiers()) && (!isRare || random.nextInt(20) == 0)) {
                call(any.getName());
            }
        }
    }

    private static Method named(Class<?> type, String name) {
        for (Method method : type.getDeclaredMethods()) {
            if (method.getName().equals(name) && !java.lang.reflect.Modifier.isPrivate(method.getModifiers())) {
                return method;
            }
        }
        throw new IllegalArgumentException(name);
    }

    private void call(String name) throws Exception {
        Method method = named(HintTeam.class, name);
        Object[] args = new Object[method.getParameterCount()];
        for (int k = 0; k < args.length; k++) {
            Class<?> type = method.getParameterTypes()[k];
            args[k] = type == boolean.class ? (Object) random.nextBoolean()
                    : type == long.class ? (Object) anyBytes() : (Object) anyNumber(name, k);
        }
        if (List.of("hint", "tells", "touches").contains(name) && random.nextInt(4) != 0 && model.count(2) > 0) {
            args[0] = random.nextInt(model.count(2));
            args[1] = random.nextInt(2);
            args[2] = (int) args[1] + random.nextInt((int) args[1] == 0 ? model.count(0) : model.count(1));
        }
        compare(name, args);
    }

    private long anyBytes() {
        return random.nextInt(3) == 0 ? random.nextLong() : random.nextLong() & 0xff00ff00ff0000ffL;
    }

    private int anyNumber(String name, int index) {
        int dice = random.nextInt(40);
        if (dice == 0) {
            return random.nextInt();
        }
        if (dice == 1) {
            return random.nextBoolean() ? Integer.MIN_VALUE : Integer.MAX_VALUE;
        }
        switch (name) {
            case "follow": return random.nextInt(20) == 0 ? random.nextInt(103) - 1 : random.nextInt(5);
            case "count": return random.nextInt(13) - 1;
            case "total": return random.nextInt(9) - 1;
            case "logPart": return index == 0 ? random.nextInt(34) - 1 : random.nextInt(6) - 1;
            case "drawn": return random.nextInt(42) - 1;
            case "outputByte": return random.nextInt(17) - 1;
            case "copies": return index == 0 ? random.nextInt(5) - 1 : random.nextInt(6);
            case "isUseless": case "isCritical": return index == 0 ? random.nextInt(4) : random.nextInt(7);
            case "play": case "discard": return random.nextInt(5) - (random.nextInt(10) == 0 ? 1 : 0);
            default: return random.nextInt(6) - (random.nextInt(4) == 0 ? 1 : 0);
        }
    }

    private void compare(String name, Object... args) throws Exception {
        Object got = answer(named(HintTeam.class, name), team, args);
        Object want = answer(named(Model.class, name), model, args);
        calls.add(name + Arrays.toString(args) + " = " + got);
        if (!got.equals(want)) {
            calls.add("  but the model answers " + want);
            wrong++;
        }
    }

    private static Object answer(Method method, Object object, Object[] args) throws Exception {
        try {
            return method.invoke(object, args);
        } catch (InvocationTargetException e) {
            Class<?> type = e.getCause().getClass();
            if (type != IndexOutOfBoundsException.class && type != IllegalArgumentException.class) {
                e.getCause().printStackTrace();
            }
            return "throws " + type.getName();
        }
    }

    /** Appends a description, sometimes a spoilt one, and loads it. */
    private void describe() throws Exception {
        StringBuilder text = new StringBuilder(description());
        if (random.nextInt(3) == 0) {
            for (int k = random.nextInt(3); k >= 0; k--) {
                spoil(text);
            }
        }
        byte[] bytes = text.toString().getBytes(java.nio.charset.StandardCharsets.ISO_8859_1);
        long next = 0;
        calls.add("the text: " + text);
        for (int k = 0; k < bytes.length; k++) {
            next = next << 8 | bytes[k] & 255;
            if (k % 8 == 7 || k == bytes.length - 1) {
                compare("append", next);
                next = 0;
            }
        }
        compare("load");
        compare("loadError");
        compare("loadStatement");
    }

    private String description() {
        boolean isSmall = random.nextInt(3) != 0;
        int colors = 1 + random.nextInt(isSmall ? 2 : 4);
        int ranks = 1 + random.nextInt(isSmall ? 3 : 5);
        int players = 2 + random.nextInt(isSmall && random.nextInt(4) != 0 ? 1 : 3);
        int hand = 1 + random.nextInt(isSmall ? 2 : 5);
        int cards = players * hand + random.nextInt(isSmall ? 5 : 20);
        List<String> parts = new ArrayList<>();
        StringBuilder deck = new StringBuilder("deck");
        for (int k = 0; k < Math.min(cards, 40); k++) {
            if (k > 0 && random.nextInt(12) == 0) {
                parts.add(deck.toString());
                deck = new StringBuilder("deck");
            }
            deck.append(k == 0 || deck.length() == 4 || random.nextInt(8) != 0 ? " " : "");
            deck.append((char) ('a' + random.nextInt(colors))).append(1 + random.nextInt(ranks));
        }
        parts.add(deck.toString());
        for (int k = random.nextInt(5); k > 0; k--) {
            parts.add(random.nextInt(parts.size() + 1), option(colors, ranks));
        }
        String separator = random.nextInt(4) == 0 ? " ; " : ";";
        parts.add(0, "game " + colors + " " + ranks + " " + players + " " + hand);
        return String.join(separator, parts);
    }

    private String option(int colors, int ranks) {
        int most = 1 + random.nextInt(random.nextInt(3) == 0 ? 9 : 3);
        switch (random.nextInt(6)) {
            case 0: case 1: return "tokens " + most + " " + random.nextInt(most + 1);
            case 2: return "lives" + (1 + random.nextInt(5));
            case 3: return "color " + random.nextInt(colors) + " " + random.nextInt(4);
            case 4: return "rank " + (1 + random.nextInt(ranks)) + " " + random.nextInt(4);
            default: return "shuffle " + random.nextInt(1000000);
        }
    }

    private void spoil(StringBuilder text) {
        String signs = "abcdegmosz0123456789 ;;  A\u00e9";
        int at = random.nextInt(text.length() + 1);
        char sign = signs.charAt(random.nextInt(signs.length()));
        switch (random.nextInt(4)) {
            case 0: text.insert(at, sign); break;
            case 1: text.delete(at, Math.min(text.length(), at + 1 + random.nextInt(3))); break;
            case 2: text.setLength(at); break;
            default: text.insert(at, random.nextBoolean() ? "game" : " deck"); break;
        }
    }
}
