import java.util.ArrayList;
import java.util.List;

/** Tests of single sentences of the document: each test quotes the one that it holds the program against. */
abstract class Edges extends Checks {
    private static final Document DOCUMENT = new Document();
    private static final List<List<String>> QUOTED = new ArrayList<>();

    static {
        for (int k = 0; k <= Document.PROMISES; k++) {
            QUOTED.add(new ArrayList<>());
        }
    }

    /** Runs the test of a sentence of a promise, or of the description and the constants for 0. */
    static void edge(int promise, String words, Runnable test) {
        about = (promise == 0 ? "description" : "promise " + promise) + ", \"" + words + "\"";
        if (!DOCUMENT.says(promise, words)) {
            fault("the document does not say so");
        }
        QUOTED.get(promise).add(words);
        int before = checks;
        try {
            test.run();
        } catch (RuntimeException e) {
            fault("the test ended with " + e);
        }
        if (checks == before) {
            fault("nothing was checked");
        }
    }

    /** Every sentence must be quoted by a test, but for those that name nothing that could be missed. */
    static void allAreQuoted(List<String> withoutEdges) {
        about = "the document";
        for (int promise = 0; promise <= Document.PROMISES; promise++) {
            for (String sentence : DOCUMENT.sentences(promise)) {
                boolean isQuoted = QUOTED.get(promise).stream().anyMatch(sentence::contains);
                due("promise " + promise + ", a test of \"" + sentence + "\"",
                        isQuoted || withoutEdges.contains(sentence), true);
            }
        }
    }

    /** What can be asked of a small game and the output without changing them, in some 150 calls. */
    static String seenGame(HintTeam team) {
        StringBuilder text = new StringBuilder();
        for (int what = 0; what <= 9; what++) {
            text.append(team.count(what)).append(' ');
        }
        text.append("\nback ").append(team.count(10)).append('\n');
        text.append(team.turnOf()).append(' ').append(team.over()).append(' ').append(output(team));
        for (int player = 0; player < team.count(2); player++) {
            text.append("\nplayer ").append(team.hand(player));
            for (int place = 0; place < team.hand(player); place++) {
                text.append(' ').append(team.card(player, place)).append(team.isTouched(player, place));
                text.append(team.colorsOf(player, place)).append('/').append(team.ranksOf(player, place));
                text.append('/').append(team.knows(player, place)).append(team.thinks(player, place));
            }
        }
        for (int color = 0; color < team.count(0); color++) {
            text.append("\npile ").append(team.pile(color)).append(' ').append(team.wordsLeft(0, color));
            for (int rank = 1; rank <= team.count(1); rank++) {
                text.append(' ').append(team.copies(color, rank, 1)).append(team.copies(color, rank, 3));
            }
        }
        for (int rank = 1; rank <= team.count(1); rank++) {
            text.append(' ').append(team.wordsLeft(1, rank));
        }
        for (int what = 0; what <= 6; what++) {
            text.append(' ').append(team.total(what));
        }
        for (int index = 0; team.logPart(index, 0) != HintTeam.NO_VALUE; index++) {
            text.append("\nturn ").append(team.logPart(index, 1)).append(team.logPart(index, 2));
        }
        return text.toString();
    }

    private static String seenLoad(HintTeam team) {
        return team.append(0) + " " + team.loadError() + " " + team.loadStatement();
    }

    /** Makes a call that must not change anything that can be asked. */
    static void keeps(String what, HintTeam team, Call call) {
        String game = seenGame(team);
        String load = seenLoad(team);
        try {
            call.make();
        } catch (RuntimeException e) {
            // What it throws is tested elsewhere; here only what it leaves behind.
        }
        due("the game behind " + what, seenGame(team), game);
        due("buffer, error and statement behind " + what, seenLoad(team), load);
    }

    /** A method that takes a number beside the game. */
    interface OfNumber {
        Object ask(HintTeam team, int number);
    }

    /** A method that takes two numbers beside the game. */
    interface OfTwo {
        Object ask(HintTeam team, int first, int second);
    }

    /** Numbers from one to another are taken, those beyond are refused. */
    static void range(HintTeam team, int lowest, int highest, Class<?> refusal, OfNumber call) {
        for (int number : new int[] {lowest - 1, highest + 1, Integer.MIN_VALUE, Integer.MAX_VALUE}) {
            fails("number " + number, refusal, () -> call.ask(team, number));
        }
        for (int number = lowest; number <= highest; number++) {
            takes("number " + number, team, number, call);
        }
    }

    private static void takes(String what, HintTeam team, int number, OfNumber call) {
        checks++;
        try {
            call.ask(team, number);
        } catch (RuntimeException e) {
            fault(what + " ended with " + e);
        }
    }

    /** Players are numbered from 0 to PLAYERS - 1. */
    static void needsPlayer(OfNumber call) {
        for (int players = 2; players <= 4; players++) {
            HintTeam team = of("game 2 2 " + players + " 2;deck" + " a1 b2".repeat(5));
            range(team, 0, players - 1, INDEX, call);
        }
        fails("a new object", INDEX, () -> call.ask(new HintTeam(), 0));
    }

    /** Places go from 0 to the number of the cards that are in a hand at the time, less 1. */
    static void needsCard(OfTwo call) {
        needsPlayer((team, player) -> call.ask(team, player, 0));
        HintTeam large = of("game 2 2 4 5;deck" + " a1 b2".repeat(10));
        HintTeam small = of("game 2 2 2 1;deck a1 b2 a1");
        range(large, 0, 4, INDEX, (team, place) -> call.ask(team, 0, place));
        range(large, 0, 4, INDEX, (team, place) -> call.ask(team, 3, place));
        range(small, 0, 0, INDEX, (team, place) -> call.ask(team, 1, place));
        fails("place 5 is no place of the next player", INDEX, () -> call.ask(large, 0, 5));
        large.discard(0);
        range(large, 0, 3, INDEX, (team, place) -> call.ask(team, 0, place));
        small.discard(0);
        range(small, 0, 0, INDEX, (team, place) -> call.ask(team, 0, place));
        small.discard(0);
        range(small, 0, -1, INDEX, (team, place) -> call.ask(team, 1, place));
    }

    /** Colors go from 0 to COLORS - 1. */
    static void needsColor(OfNumber call) {
        for (int colors = 1; colors <= 4; colors++) {
            range(of("game " + colors + " 2 2 1;deck a1 a1 a1"), 0, colors - 1, INDEX, call);
        }
        fails("a new object", INDEX, () -> call.ask(new HintTeam(), 0));
    }

    /** Kinds are those of the colors and the ranks of the game, also if it has no card of them. */
    static void needsKind(OfTwo call) {
        needsColor((team, color) -> call.ask(team, color, 1));
        for (int ranks = 1; ranks <= 5; ranks++) {
            HintTeam game = of("game 2 " + ranks + " 2 1;deck a1 a1 a1");
            range(game, 1, ranks, INDEX, (team, rank) -> call.ask(team, 0, rank));
            range(game, 1, ranks, INDEX, (team, rank) -> call.ask(team, 1, rank));
        }
        fails("a new object", INDEX, () -> call.ask(new HintTeam(), 0, 1));
    }

    /** Words are colors (0), from 0 to COLORS - 1, and ranks (1), from 1 to RANKS. */
    static void needsWord(OfTwo call) {
        for (int colors = 1; colors <= 4; colors++) {
            HintTeam game = of("game " + colors + " 5 2 1;deck a1 a1 a1");
            range(game, 0, colors - 1, ARGUMENT, (team, value) -> call.ask(team, 0, value));
        }
        for (int ranks = 1; ranks <= 5; ranks++) {
            HintTeam game = of("game 4 " + ranks + " 2 1;deck a1 a1 a1");
            range(game, 1, ranks, ARGUMENT, (team, value) -> call.ask(team, 1, value));
        }
        range(of("game 4 5 2 1;deck a1 a1 a1"), 0, 1, ARGUMENT, (team, word) -> call.ask(team, word, 1));
    }
}
