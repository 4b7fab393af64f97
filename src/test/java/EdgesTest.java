import java.util.List;

/** For each sentence of the document that names an edge a test of its own. */
public final class EdgesTest extends Edges {
    /** What only leads over, and what other sentences of its promise tell with the edges. */
    private static final List<String> WITHOUT_EDGES = List.of(
            "The constants:",
            "The constructor and the methods follow, a promise each: the signature, then what it does.",
            "- `bytes`: the bytes", "- `player`: a player", "- `place`: a place in the player's hand",
            "Returns a number of the game.", "Returns whose turn it is.", "Tells whether the game is over.",
            "Returns the rank of the top card of a pile.", "Returns a card of a hand.",
            "Returns a card that is still to be drawn.", "Returns how many cards of a kind there are.",
            "Tells whether a kind is useless (section 3).", "Tells what the player knows of a card.",
            "Returns what the player whose turn it is should do (section 4).",
            "Returns the number.", "Returns the number;", "Returns the score.", "Returns the score;",
            "Returns the byte;", "Returns 10 * its color + its rank;",
            "Returns true if it is.", "Returns true if it was.");

    public static void main(String[] args) {
        TextEdges.run();
        PlayEdges.run();
        MindEdges.run();
        ValueEdges.run();
        RecordEdges.run();
        allAreQuoted(WITHOUT_EDGES);
        end("EdgesTest");
    }
}
