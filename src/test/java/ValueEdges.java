/** The edges of section 5 and of promises 32 to 37: what a game can still come to. */
final class ValueEdges extends Edges {
    private static final int NONE = HintTeam.NONE;
    private static final int OVER = HintTeam.OVER;
    private static final int UNKNOWN = HintTeam.UNKNOWN;
    private static final int NOT_SENSIBLE = HintTeam.NOT_SENSIBLE;
    /** 4000 positions can come, the present one included. */
    private static final String MOST = "game 2 2 2 2;deck b1 b1 a1 a2 a2 b2 a2 b2;tokens 2 1";
    /** 4001 positions can come. */
    private static final String ONE_MORE = "game 1 3 2 2;deck a1 a3 a1 a2 a3 a3 a3 a2;tokens 3 3";
    /** 4000 positions can come behind card 1 being played. */
    private static final String MOST_BEHIND = "game 1 3 3 2;deck a3 a1 a3 a3 a3 a2 a3 a1 a1 a2;tokens 2 2";
    /** 4001 positions can come behind card 1 being played. */
    private static final String ONE_MORE_BEHIND = "game 2 2 2 2;deck a1 b1 b2 b1 b2 a2 a1 a1 b1;tokens 3 1";
    /** 4001 positions can come behind a hint. */
    private static final String ONE_MORE_BEHIND_A_HINT = "game 2 2 2 2;deck b1 a2 a1 a2 b1 a1 b1 b1;tokens 2 2";
    private static final String HUGE = "game 4 5 4 5;deck" + " a1 b2 c3 d4".repeat(10);

    static void run() {
        moves();
        positions();
        boundAndPace();
        promises();
    }

    private static void moves() {
        edge(0, "Here all cards are seen, those to be drawn, too.", ValueEdges::allCardsAreSeen);
        edge(0, "to play a card that can be played, by places (kind 0);", ValueEdges::playsFirst);
        edge(0, "to discard a card, by places (kind 1);", ValueEdges::discardsThen);
        edge(0, "a hint, if there are tokens", ValueEdges::hintsNeedTokens);
        edge(0, "whatever words are left", ValueEdges::hintsWithoutWords);
        edge(0, "also if nobody else has a card", ValueEdges::hintsToEmptyHands);
        edge(0, "(it only takes a token;", ValueEdges::hintsTellNothing);
        edge(0, "kind 2);", ValueEdges::hintsLast);
        edge(0, "to pass, if the player has no cards (kind 3).", ValueEdges::neverToPass);
        edge(0, "A game that is over has none.", ValueEdges::noMovesWhenOver);
    }

    private static void positions() {
        edge(0, "by which cards (as the single ones that they are, not their places) each player has",
                ValueEdges::singleCards);
        edge(0, "each player has, the piles,", ValueEdges::pilesTell);
        edge(0, "the piles, the tokens,", ValueEdges::tokensTell);
        edge(0, "the tokens, the cards to be drawn,", ValueEdges::drawnCardsTell);
        edge(0, "whose turn it is", ValueEdges::turnsTell);
        edge(0, "A position is told by which cards (as the single ones that they are, not their places) each player "
                + "has, the piles, the tokens, the cards to be drawn, whose turn it is and the turns left of the last "
                + "round.", ValueEdges::turnsLeftTell);
        edge(0, "The positions that can come are the present one and all that come by sensible moves, one after the "
                + "other;", ValueEdges::oneAfterTheOther);
        edge(0, "if these are more than 4000, the VALUE is UNKNOWN.", ValueEdges::tooManyForAValue);
        edge(0, "Otherwise it is the greatest score of one of them.", ValueEdges::greatestScore);
    }

    private static void boundAndPace() {
        edge(32, "the sum, over the colors", ValueEdges::boundOfColors);
        edge(32, "of the greatest rank up to which", ValueEdges::boundOfRanks);
        edge(32, "beyond the pile", ValueEdges::boundBeyondThePile);
        edge(32, "Returns the greatest score that the heap leaves: the sum, over the colors, of the greatest rank up "
                + "to which, beyond the pile, not all cards of any rank are in the heap.", ValueEdges::boundOfHeap);
        edge(33, "the score, the cards to be drawn and the players, less bound().", ValueEdges::pace);
        edge(33, "Returns the number, which can be negative.", ValueEdges::negativePace);
    }

    private static void promises() {
        edge(34, "Returns the VALUE (section 5).", ValueEdges::greatestScore);
        edge(34, "UNKNOWN if there are too many positions.", ValueEdges::tooManyForAValue);
        edge(35, "the present one included.", ValueEdges::presentPosition);
        edge(35, "UNKNOWN if there are more than 4000.", ValueEdges::tooManyPositions);
        edge(36, "Returns the VALUE behind a sensible move (section 5).", ValueEdges::valuesBehind);
        edge(36, "`kind`: 0 to play, 1 to discard, 2 to hint, 3 to pass", ValueEdges::kindsOfMoves);
        edge(36, "`place`: for 0 and 1 the place in the hand of the player whose turn it is;",
                ValueEdges::placesOfMoves);
        edge(36, "any number otherwise", ValueEdges::anyPlaceOfHints);
        edge(36, "OVER if the game is over;", ValueEdges::valueBehindWhenOver);
        edge(36, "NOT_SENSIBLE if it is no sensible move;", ValueEdges::notSensible);
        edge(36, "UNKNOWN if too many positions can come behind it.", ValueEdges::tooManyBehind);
        edge(36, "if kind is out of range", ValueEdges::kindsOutOfRange);
        edge(37, "Returns the first sensible move (section 5) behind which the VALUE is that of the present position.",
                ValueEdges::firstBestMove);
        edge(37, "`what`: 0 its kind, 1 the place of the card (NONE for kinds 2 and 3)", ValueEdges::hintsLast);
        edge(37, "OVER if the game is over;", ValueEdges::bestMoveWhenOver);
        edge(37, "UNKNOWN if value() is.", ValueEdges::bestMoveUnknown);
        edge(37, "if what is neither", ValueEdges::bestMoveParts);
    }

    /** Games that are over, each for another reason, with their scores. */
    private static HintTeam[] overGames() {
        HintTeam lives = of("game 2 1 2 1;deck b1 a1 b1 a1;lives 1;tokens 5 5");
        lives.play(0);
        lives.hint(0, 0, 1);
        lives.play(0);
        HintTeam piles = of("game 1 1 2 1;deck a1 a1 a1");
        piles.play(0);
        HintTeam round = of("game 2 1 2 2;deck a1 a1 a1 a1");
        round.play(0);
        round.discard(0);
        return new HintTeam[] {new HintTeam(), lives, piles, round};
    }

    private static void best(String what, HintTeam team, int kind, int place) {
        due(what + ", kind", team.bestMove(0), kind);
        due(what + ", place", team.bestMove(1), place);
    }

    /** Player 0 must discard a2 and draws the next card; then each player has one turn more. */
    private static void allCardsAreSeen() {
        due("a2 is drawn", of("game 1 2 2 1;deck a2 a1 a2;tokens 1 0").value(), 2);
        due("a1 is drawn", of("game 1 2 2 1;deck a2 a1 a1;tokens 1 0").value(), 1);
        HintTeam team = of("game 1 2 2 1;deck a2 a1 a2;tokens 1 0");
        due("nobody knows of a2", team.knows(0, 0), 0);
        due("nobody knows of a1", team.knows(1, 0), 0);
    }

    private static void playsFirst() {
        best("a1 before b1", of("game 2 1 2 2;deck a1 b1 a1 b1"), 0, 0);
        best("b1 before a1", of("game 2 1 2 2;deck b1 a1 a1 b1"), 0, 0);
        best("place 0 cannot be played", of("game 1 2 2 2;deck a2 a1 a2 a2"), 0, 1);
        best("places 0 and 1 cannot be played", of("game 1 3 2 3;deck a2 a3 a1 a2 a2 a2"), 0, 2);
        // Only the play at place 1 leaves b2 to be played: a turn of player 1, then the game is over.
        HintTeam second = of("game 2 2 2 2;deck a1 b1 b2 b2;tokens 1 0");
        due("a1", second.valueBehind(0, 0), 1);
        due("b1", second.valueBehind(0, 1), 2);
        best("b1 at place 1", second, 0, 1);
        // Player 1 can do all that is to be done, so that player 0 may play or discard.
        best("to play rather than to discard", of("game 1 1 2 1;deck a1 a1"), 0, 0);
    }

    private static void discardsThen() {
        best("rather than a hint", of("game 1 2 2 1;deck a2 a1 a2;tokens 2 2"), 1, 0);
        best("place 0 before place 1", of("game 1 3 2 2;deck a3 a3 a1 a1 a3;tokens 1 0"), 1, 0);
        // a2 must stay, as player 1 plays a1 then.
        HintTeam second = of("game 1 3 2 2;deck a2 a3 a1 a1 a3;tokens 1 0");
        due("a2", second.valueBehind(1, 0), 1);
        due("a3", second.valueBehind(1, 1), 2);
        best("place 1", second, 1, 1);
        // a1 can be played, but also be discarded: player 1 has the other one.
        HintTeam useful = of("game 1 2 2 1;deck a1 a1;tokens 1 0");
        due("a card that can be played", useful.valueBehind(1, 0), 1);
    }

    private static void hintsNeedTokens() {
        due("no token", of("game 1 2 2 1;deck a2 a1;tokens 9 0").valueBehind(2, 0), NOT_SENSIBLE);
        due("one token", of("game 1 2 2 1;deck a2 a1;tokens 9 1").valueBehind(2, 0), 1);
        HintTeam team = of("game 1 2 2 1;deck a2 a1;tokens 9 1");
        team.hint(1, 1, 1);
        due("the token is taken", team.valueBehind(2, 0), NOT_SENSIBLE);
    }

    private static void hintsWithoutWords() {
        String none = ";color 0 0;rank 1 0;rank 2 0";
        HintTeam team = of("game 1 2 2 1;deck a2 a1;tokens 1 1" + none);
        due("no word can be given", team.hint(1, 1, 1), HintTeam.NO_WORD);
        due("value behind a hint", team.valueBehind(2, 0), 1);
        due("positions", team.positions(), of("game 1 2 2 1;deck a2 a1;tokens 1 1").positions());
        HintTeam wait = of("game 1 3 2 1;deck a2 a1 a1 a3;tokens 2 2" + none + ";rank 3 0");
        due("only waiting leads to a2 on a1", wait.value(), 3);
        due("by a hint", wait.bestMove(0), 2);
    }

    private static void hintsToEmptyHands() {
        HintTeam team = of("game 1 2 2 1;deck a1 a1;tokens 1 1");
        team.play(0);
        due("player 0 has no card", team.hand(0), 0);
        due("value behind a hint", team.valueBehind(2, 0), 1);
        // The present one, one behind a1 being discarded, one behind a hint.
        due("positions", team.positions(), 3);
    }

    private static void hintsTellNothing() {
        // Two players more and five words can be given a hint with, which is one move. Player 0 discards a2, or
        // gives a hint; so does player 1, if a token is left, and player 2, if one is left.
        HintTeam team = of("game 2 3 3 1;deck a2 a2 a2;tokens 1 1");
        // 1; d, h; dd, dh, hd; ddd, ddh, dhd, hdd, hdh
        due("positions", team.positions(), 1 + 2 + 3 + 5);
        HintTeam touched = of("game 2 3 3 1;deck a2 a2 a2;tokens 2 2");
        touched.hint(1, 1, 2);
        touched.undo();
        keeps("a survey", touched, touched::value);
        due("touched by none", touched.isTouched(1, 0), false);
    }

    private static void hintsLast() {
        HintTeam wait = of("game 1 3 2 1;deck a2 a1 a1 a3;tokens 2 2");
        due("a2 is needed", wait.valueBehind(1, 0) < 3, true);
        best("a hint if nothing else does it", wait, 2, NONE);
        best("a card at a place", of("game 1 2 2 2;deck a2 a1 a2 a2"), 0, 1);
        best("a card at a place", of("game 1 3 2 2;deck a2 a3 a1 a1 a3;tokens 1 0"), 1, 1);
    }

    /** Whose turn it is always has cards, as the last round has one turn for each player. */
    private static void neverToPass() {
        for (int players = 2; players <= 4; players++) {
            HintTeam team = of("game 2 2 " + players + " 1;deck" + " a1 b2".repeat(3) + ";tokens 1 0");
            for (int k = 0; k < 20 && team.over() == 0; k++) {
                due("cards", team.hand(team.turnOf()) > 0, true);
                due("to pass", team.valueBehind(3, 0), NOT_SENSIBLE);
                due("the best move is not to pass", team.bestMove(0) < 3, true);
                team.discard(0);
            }
            due("over", team.over(), 3);
        }
    }

    private static void noMovesWhenOver() {
        for (HintTeam team : overGames()) {
            due("over", team.over() != 0, true);
            due("positions", team.positions(), 1);
            due("value", team.value(), team.count(7));
        }
        // a1 on its pile ends it, so that player 1 has a turn only behind the discarded a1: to play, to discard, or
        // to give a hint with the token that came back.
        due("whole piles on the way", of("game 1 1 2 1;deck a1 a1;tokens 1 0").positions(), 1 + 2 + 3);
    }

    private static void singleCards() {
        // Each of two players discards one of two equal cards, or gives a hint.
        due("equal cards are two", of("game 1 2 2 2;deck a2 a2 a2 a2;tokens 9 9").positions(), 1 + 3 + 9);
        due("without tokens player 0 gives no hint",
                of("game 1 2 2 2;deck a2 a2 a2 a2;tokens 1 0").positions(), 1 + 2 + 6);
        due("equal cards are as others",
                of("game 1 5 2 2;deck a2 a3 a4 a5;tokens 9 9").positions(), 1 + 3 + 9);
        // a1 and a1 are played one behind the other, or one is played and the other one discarded, in any order.
        HintTeam team = of("game 1 3 2 2;deck a1 a1 a3 a3;tokens 1 0");
        due("equal values", team.valueBehind(0, 0), team.valueBehind(0, 1));
    }

    private static void pilesTell() {
        // P played, D discarded, H a hint: 1; P, D, H; PD and DP are one, PH, DD, DH, HP, HD, HH.
        due("a card on the pile or in the heap", of("game 1 2 2 1;deck a1 a1;tokens 9 9").positions(), 1 + 3 + 7);
        // 1; P, D; PP, PD, DP, DD and, with the token that came back, DH.
        due("piles of two colors", of("game 2 2 2 1;deck a1 b1;tokens 9 0").positions(), 1 + 2 + 5);
    }

    private static void tokensTell() {
        // Hints: t2, t1, t0; the first discard behind them leaves t2, t2, t1. Behind the first two of these each
        // player discards or gives a hint: 7 positions. Behind the third one there are 6, of which 3, behind a
        // discard, are those behind the first one.
        due("no more than 2 tokens", of("game 1 2 2 1;deck a2 a2 a2;tokens 2 2").positions(), 3 + 7 + 7 + 6 - 3);
        due("tokens that came back", of("game 1 1 2 1;deck a1 a1;tokens 9 5").positions(), 10);
        due("tokens that did not", of("game 1 1 2 1;deck a1 a1;tokens 5 5").positions(), 10);
    }

    private static void drawnCardsTell() {
        // Each of the turns but the last two draws a card.
        for (int more = 0; more <= 3; more++) {
            HintTeam team = of("game 1 1 2 1;deck a1 a1" + " a1".repeat(more) + ";tokens 1 0");
            HintTeam other = of("game 1 1 2 1;deck a1 a1" + " a1".repeat(more + 1) + ";tokens 1 0");
            due("a card more to be drawn", team.positions() < other.positions(), true);
        }
        // Behind the discarded a2 a card is drawn, behind the hint the same one by player 1.
        due("one card", of("game 1 2 2 1;deck a2 a2 a2;tokens 1 1").positions(), 14);
    }

    private static void turnsTell() {
        // A discard and a hint leave one token, and so do two hints and a discard; the cards are the same.
        due("by another player's turn", of("game 1 2 2 1;deck a2 a2 a2 a2;tokens 2 2").positions(), 42);
        // Both have discarded all, but either player 0 began the last round or player 1.
        due("behind the end", of("game 1 2 2 1;deck a2 a2 a2;tokens 1 1").positions(), 14);
    }

    private static void turnsLeftTell() {
        // As in tokensTell(), but the first discards leave t3, t2, t1; behind the third one there are 6 positions, of
        // which only that without cards is one behind the first one. Two hints behind the first one leave the
        // third one's cards and token, but no turns.
        due("two turns or none", of("game 1 2 2 1;deck a2 a2 a2;tokens 3 2").positions(), 3 + 7 + 7 + 6 - 1);
    }

    private static void oneAfterTheOther() {
        due("both play", of("game 1 2 2 1;deck a1 a2;tokens 1 0").positions(), 7);
        HintTeam team = of("game 1 2 2 1;deck a1 a2;tokens 1 0");
        team.play(0);
        due("behind a1: a2 is played or discarded", team.positions(), 3);
        team.undo();
        team.discard(0);
        due("behind a discard: a discard, a hint", team.positions(), 3);
        team.discard(0);
        due("behind both", team.positions(), 1);
        // Behind a1 player 1 plays or discards one of five cards; behind one of five discards that brought a token
        // back player 1 discards one of five cards or gives a hint.
        due("hands of five cards", of("game 1 2 2 5;deck a2 a2 a2 a2 a1 a2 a2 a2 a2 a2;tokens 1 0").positions(),
                1 + 6 + 10 + 30);
    }

    private static void tooManyForAValue() {
        due("4000", of(MOST).value(), 4);
        due("4001", of(ONE_MORE).value(), UNKNOWN);
        due("far more", of(HUGE).value(), UNKNOWN);
    }

    private static void tooManyPositions() {
        due("4000", of(MOST).positions(), 4000);
        due("4001", of(ONE_MORE).positions(), UNKNOWN);
        due("far more", of(HUGE).positions(), UNKNOWN);
        HintTeam team = of(HUGE);
        team.follow(100);
        due("it is over", team.positions(), 1);
    }

    private static void greatestScore() {
        due("nothing can be played", of("game 1 2 2 1;deck a2 a2 a2").value(), 0);
        due("both play", of("game 1 2 2 1;deck a1 a2;tokens 1 0").value(), 2);
        due("the first one cannot", of("game 1 2 2 1;deck a2 a1;tokens 1 0").value(), 1);
        due("all piles", of("game 2 1 2 1;deck a1 b1 a1 b1").value(), 2);
        for (char color = 'a'; color <= 'd'; color++) {
            String deck = "deck 11 12 13 14 15".replace(" 1", " " + color);
            due("color " + color, of("game 4 5 2 1;tokens 1 0;" + deck).value(), 5);
        }
        due("all piles of four colors", of("game 4 1 4 1;deck a1 b1 c1 d1").value(), 4);
        due("without color 3", of("game 4 1 3 1;deck a1 b1 c1").value(), 3);
        due("without color 2", of("game 4 1 3 1;deck a1 b1 d1").value(), 3);
        HintTeam team = of("game 1 2 2 1;deck a1 a1 a1");
        team.play(0);
        due("the present score", team.value(), 1);
        due("the fifth card of five", of("game 1 2 2 5;deck a2 a2 a2 a2 a1 a2 a2 a2 a2 a2;tokens 1 0").value(), 2);
        // Lives do not matter here, only cards that can be played are.
        due("one life", of("game 1 2 2 1;deck a2 a1 a2;tokens 1 1;lives 1").value(), 2);
    }

    private static void boundOfColors() {
        due("a new object", new HintTeam().bound(), 0);
        due("one color", of("game 1 2 2 1;deck a1 a2").bound(), 2);
        due("another color", of("game 4 5 2 1;deck d1 d2 d3").bound(), 3);
        due("more colors than ranks", of("game 4 1 2 1;deck a1 b1 c1 d1").bound(), 4);
        due("all colors", of("game 4 5 2 1;deck a1 b1 b2 c1 c2 c3 d1 d2 d3 d4").bound(), 10);
        due("all cards",
                of("game 4 5 2 1;deck a1 a2 a3 a4 a5 b1 b2 b3 b4 b5 c1 c2 c3 c4 c5 d1 d2 d3 d4 d5").bound(), 20);
    }

    private static void boundOfRanks() {
        due("no rank 1", of("game 1 5 2 1;deck a2 a3 a4 a5").bound(), 0);
        due("no rank 3", of("game 1 5 2 1;deck a1 a2 a4 a5").bound(), 2);
        due("no rank 5", of("game 1 5 2 1;deck a1 a2 a3 a4").bound(), 4);
        due("not beyond RANKS", of("game 1 4 2 1;deck a1 a2 a3 a4").bound(), 4);
    }

    private static void boundBeyondThePile() {
        HintTeam team = of("game 1 3 2 1;deck a1 a1 a2 a1 a3 a1");
        team.play(0);
        team.discard(0);
        due("a1 on the pile, one in the heap", team.bound(), 3);
        team.play(0);
        team.discard(0);
        due("a2 on the pile", team.bound(), 3);
        team.play(0);
        due("a whole pile", team.bound(), 3);
        // The only a1 is on the pile: none is left, but none is in the heap.
        HintTeam sole = of("game 1 3 2 1;deck a1 a2 a3");
        sole.play(0);
        due("the only a1 is on the pile", sole.bound(), 3);
    }

    private static void boundOfHeap() {
        HintTeam team = of("game 2 3 2 1;deck a2 b1 a2 a1 b2 a3 b3 a1;lives 5");
        due("nothing in the heap", team.bound(), 6);
        team.discard(0);
        due("one a2 of two", team.bound(), 6);
        team.hint(0, 1, 2);
        team.play(0);
        due("the other a2 is lost", team.over(), 0);
        due("no a2 is left", team.bound(), 4);
        team.discard(0);
        due("no b1 is left", team.bound(), 1);
        HintTeam first = of("game 1 3 2 1;deck a1 a2 a3");
        first.discard(0);
        due("no a1 is left", first.bound(), 0);
    }

    private static void pace() {
        due("a new object: 0 + 0 + 0 - 0", new HintTeam().pace(), 0);
        due("0 + 0 + 2 - 2", of("game 1 2 2 1;deck a1 a2").pace(), 0);
        due("0 + 38 + 2 - 0", of("game 1 2 2 1;deck" + " a2".repeat(40)).pace(), 40);
        due("0 + 36 + 4 - 0", of("game 1 2 4 1;deck" + " a2".repeat(40)).pace(), 40);
        HintTeam team = of("game 1 3 3 1;deck a1 a2 a3 a3 a1");
        due("0 + 2 + 3 - 3", team.pace(), 2);
        team.play(0);
        due("1 + 1 + 3 - 3", team.pace(), 2);
        team.discard(0);
        due("1 + 0 + 3 - 1", team.pace(), 3);
    }

    private static void negativePace() {
        due("0 + 0 + 2 - 3", of("game 1 3 2 2;deck a1 a2 a3 a3").pace(), -1);
        due("0 + 0 + 4 - 20",
                of("game 4 5 4 5;deck a1 a2 a3 a4 a5 b1 b2 b3 b4 b5 c1 c2 c3 c4 c5 d1 d2 d3 d4 d5").pace(), -16);
    }

    private static void presentPosition() {
        due("a new object", new HintTeam().positions(), 1);
        // A hand of one card that cannot be played, and then another one.
        due("two discards, and a hint behind the first one",
                of("game 1 2 2 1;deck a2 a2;tokens 1 0").positions(), 1 + 1 + 2);
        HintTeam team = of("game 1 2 2 1;deck a2 a2;tokens 1 0");
        team.discard(0);
        due("a discard or a hint", team.positions(), 1 + 2);
    }

    private static void valuesBehind() {
        HintTeam team = of("game 1 2 2 1;deck a1 a2 a1;tokens 1 1");
        due("a1 is played, a2 too", team.valueBehind(0, 0), 2);
        due("a1 is discarded", team.valueBehind(1, 0), 1);
        due("a hint", team.valueBehind(2, 0), 1);
        keeps("valueBehind", team, () -> team.valueBehind(0, 0));
        // Player 1 has a1, which is the second card of the deck.
        HintTeam second = of("game 1 2 2 1;deck a2 a1 a2 a2;tokens 1 0");
        second.discard(0);
        due("a1 is played, a2 too", second.valueBehind(0, 0), 2);
        due("the only a1 is discarded", second.valueBehind(1, 0), 0);
        due("a hint, then player 0 draws the other a2 for a1", second.valueBehind(2, 0), 2);
    }

    private static void kindsOfMoves() {
        HintTeam team = of("game 1 3 2 2;deck a3 a1 a2 a2 a3 a3;tokens 2 1");
        int[] values = {team.valueBehind(0, 1), team.valueBehind(1, 1), team.valueBehind(2, 1), team.valueBehind(3, 1)};
        team.play(1);
        due("to play", values[0], team.value());
        team.undo();
        team.discard(1);
        due("to discard", values[1], team.value());
        team.undo();
        team.hint(1, 1, 2);
        due("to hint", values[2], team.value());
        due("to pass", values[3], NOT_SENSIBLE);
        due("they differ", values[0] > values[1], true);
    }

    private static void placesOfMoves() {
        HintTeam team = of("game 1 2 2 3;deck a1 a1 a1 a1 a1 a1;tokens 1 1");
        for (int kind = 0; kind <= 1; kind++) {
            for (int place = 0; place < 3; place++) {
                due("place " + place, team.valueBehind(kind, place), 1);
            }
            for (int place : new int[] {-1, 3, 4, 5, 40, Integer.MIN_VALUE, Integer.MAX_VALUE}) {
                due("place " + place, team.valueBehind(kind, place), NOT_SENSIBLE);
            }
        }
        team.discard(0);
        HintTeam smaller = of("game 1 2 2 2;deck a2 a1 a2 a1 a1");
        smaller.discard(0);
        smaller.discard(0);
        due("the hand of player 0, not of player 1", smaller.valueBehind(0, 0), 1);
        due("the hand of player 0, not of player 1", smaller.valueBehind(1, 1), 0);
        due("no place 2", smaller.valueBehind(1, 2), NOT_SENSIBLE);
    }

    private static void anyPlaceOfHints() {
        HintTeam team = of("game 1 2 2 1;deck a1 a2 a1;tokens 1 1");
        for (int place : new int[] {-1, 0, 1, 99, Integer.MIN_VALUE, Integer.MAX_VALUE}) {
            due("a hint, place " + place, team.valueBehind(2, place), 1);
            due("to pass, place " + place, team.valueBehind(3, place), NOT_SENSIBLE);
        }
    }

    private static void valueBehindWhenOver() {
        for (HintTeam team : overGames()) {
            for (int kind = 0; kind <= 3; kind++) {
                due("kind " + kind, team.valueBehind(kind, 0), OVER);
                due("kind " + kind + ", no such place", team.valueBehind(kind, -1), OVER);
            }
        }
    }

    private static void notSensible() {
        HintTeam team = of("game 1 3 2 3;deck a2 a1 a3 a1 a1 a1;tokens 1 0");
        due("a2 on nothing", team.valueBehind(0, 0), NOT_SENSIBLE);
        due("a1 on nothing", team.valueBehind(0, 1) >= 0, true);
        due("a3 on nothing", team.valueBehind(0, 2), NOT_SENSIBLE);
        due("no card", team.valueBehind(0, 3), NOT_SENSIBLE);
        due("no card", team.valueBehind(1, 3), NOT_SENSIBLE);
        due("no token", team.valueBehind(2, 0), NOT_SENSIBLE);
        due("with cards", team.valueBehind(3, 0), NOT_SENSIBLE);
        team.play(1);
        due("a1 on a1", team.valueBehind(0, 0), NOT_SENSIBLE);
        HintTeam many = of(HUGE + ";tokens 1 0");
        due("NOT_SENSIBLE before UNKNOWN", many.valueBehind(0, 1), NOT_SENSIBLE);
        due("NOT_SENSIBLE before UNKNOWN", many.valueBehind(2, 0), NOT_SENSIBLE);
        due("NOT_SENSIBLE before UNKNOWN", many.valueBehind(3, 0), NOT_SENSIBLE);
    }

    private static void tooManyBehind() {
        HintTeam most = of(MOST_BEHIND);
        due("more before it", most.value(), UNKNOWN);
        due("4000 behind it", most.valueBehind(0, 1), 3);
        most.play(1);
        due("4000", most.positions(), 4000);
        due("4001 behind a play", of(ONE_MORE_BEHIND).valueBehind(0, 1), UNKNOWN);
        due("4001 behind a hint", of(ONE_MORE_BEHIND_A_HINT).valueBehind(2, 0), UNKNOWN);
        due("4000 with the present one", of(ONE_MORE).valueBehind(0, 0), 3);
        due("far more", of(HUGE).valueBehind(0, 0), UNKNOWN);
        due("far more", of(HUGE).valueBehind(1, 0), UNKNOWN);
        due("far more", of(HUGE).valueBehind(2, 0), UNKNOWN);
    }

    private static void kindsOutOfRange() {
        range(of("game 1 2 2 1;deck a1 a2"), 0, 3, ARGUMENT, (team, kind) -> team.valueBehind(kind, 0));
        fails("kind 4 before OVER", ARGUMENT, () -> new HintTeam().valueBehind(4, 0));
        fails("kind -1 before OVER", ARGUMENT, () -> new HintTeam().valueBehind(-1, 0));
        fails("kind 4 before UNKNOWN", ARGUMENT, () -> of(HUGE).valueBehind(4, 0));
    }

    /** Of all sensible moves, in their order, the first one that keeps the VALUE, turn by turn to the end. */
    private static void firstBestMove() {
        HintTeam team = of("game 2 2 2 2;deck b2 b1 a2 a1 a1 b2;tokens 2 1");
        int value = team.value();
        for (int k = 0; k < 12 && team.over() == 0; k++) {
            int kind = 0;
            int place = 0;
            while (team.valueBehind(kind, place) != value) {
                boolean isNextKind = kind == 2 || place + 1 >= team.hand(team.turnOf());
                place = isNextKind ? 0 : place + 1;
                kind += isNextKind ? 1 : 0;
            }
            best("turn " + k, team, kind, kind < 2 ? place : NONE);
            if (kind == 2) {
                giveAnyHint(team);
            } else if (kind == 1) {
                team.discard(place);
            } else {
                team.play(place);
            }
            due("the value stays", team.value(), value);
        }
        due("over", team.over() != 0, true);
        due("the value is the score then", team.count(7), value);
    }

    private static void giveAnyHint(HintTeam team) {
        for (int value = 0; value < team.count(0); value++) {
            if (team.hint(1 - team.turnOf(), 0, value) >= 0) {
                return;
            }
        }
    }

    private static void bestMoveWhenOver() {
        for (HintTeam team : overGames()) {
            due("kind", team.bestMove(0), OVER);
            due("place", team.bestMove(1), OVER);
        }
    }

    private static void bestMoveUnknown() {
        due("4000", of(MOST).bestMove(0) >= 0, true);
        due("4000", of(MOST).bestMove(1) >= NONE, true);
        due("4001", of(ONE_MORE).bestMove(0), UNKNOWN);
        due("4001", of(ONE_MORE).bestMove(1), UNKNOWN);
        due("but less behind a move", of(ONE_MORE).valueBehind(0, 0), 3);
        due("far more", of(HUGE).bestMove(0), UNKNOWN);
        due("far more", of(HUGE).bestMove(1), UNKNOWN);
    }

    private static void bestMoveParts() {
        range(of("game 1 2 2 1;deck a1 a2"), 0, 1, ARGUMENT, HintTeam::bestMove);
        fails("2 before OVER", ARGUMENT, () -> new HintTeam().bestMove(2));
        fails("-1 before OVER", ARGUMENT, () -> new HintTeam().bestMove(-1));
        fails("2 before UNKNOWN", ARGUMENT, () -> of(HUGE).bestMove(2));
    }
}
