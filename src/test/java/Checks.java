import java.nio.charset.StandardCharsets;

/** What the tests share: answers that are compared and counted, texts that are loaded, outputs that are read. */
abstract class Checks {
    static final Class<?> INDEX = IndexOutOfBoundsException.class;
    static final Class<?> ARGUMENT = IllegalArgumentException.class;
    /** Two colors, three ranks; player 0 has a1 b1, player 1 a2 b2; a3 b3 a1 b1 are to be drawn. */
    static final String PLAIN = "game 2 3 2 2;deck a1 b1 a2 b2 a3 b3 a1 b1;tokens 3 2";

    /** What of the document is tested at the time; it is printed with each wrong answer. */
    static String about = "";
    static int checks;
    static int wrong;

    /** A call that may throw. */
    interface Call {
        Object make();
    }

    /** Prints how it went; ends with exit code 1 if an answer was wrong. */
    static void end(String name) {
        System.out.println(name + ": " + checks + " checks, " + wrong + " wrong");
        if (wrong != 0) {
            System.exit(1);
        }
    }

    static void fault(String what) {
        wrong++;
        System.out.println(about + ": " + what);
    }

    static void due(String what, Object got, Object want) {
        checks++;
        if (!want.equals(got)) {
            fault(what + " answered " + got + ", due is " + want);
        }
    }

    static void due(String what, long got, long want) {
        due(what, (Object) got, (Object) want);
    }

    static void due(String what, boolean got, boolean want) {
        due(what, (Object) got, (Object) want);
    }

    static void fails(String what, Class<?> type, Call call) {
        Object got = null;
        try {
            got = call.make();
        } catch (RuntimeException e) {
            got = e.getClass();
        }
        due(what, got, type);
    }

    static int load(HintTeam team, String text) {
        byte[] bytes = text.getBytes(StandardCharsets.ISO_8859_1);
        long next = 0;
        for (int k = 0; k < bytes.length; k++) {
            next = next << 8 | bytes[k] & 255;
            if (k % 8 == 7 || k == bytes.length - 1) {
                team.append(next);
                next = 0;
            }
        }
        return team.load();
    }

    static HintTeam of(String text) {
        HintTeam team = new HintTeam();
        int got = load(team, text);
        if (got < 0) {
            fault(text + " was not loaded: " + got);
        }
        return team;
    }

    static String output(HintTeam team) {
        StringBuilder text = new StringBuilder();
        for (int k = 0; team.outputByte(k) != HintTeam.NONE; k++) {
            text.append((char) team.outputByte(k));
        }
        return text.toString();
    }

    static void written(HintTeam team, int player, boolean seen, String want) {
        due("length of " + want, team.writeHand(player, seen), want.length());
        due("output", output(team), want);
    }
}
