/** The edges of section 2 and of promises 6 to 13, 16 to 18, 22, 23 and 25 to 28: the game and its turns. */
final class PlayEdges extends Edges {
    private static final int NONE = HintTeam.NONE;
    private static final int OVER = HintTeam.OVER;

    static void run() {
        hands();
        cards();
        endings();
        numbers();
        hints();
        turns();
    }

    private static void hands() {
        edge(0, "At the beginning the players get HAND cards each, player 0 first all of them", PlayEdges::dealing);
        edge(0, "A hand has places from 0 on;", PlayEdges::places);
        edge(0, "a card that is drawn comes behind the others;", PlayEdges::places);
        edge(0, "behind a card that goes, the others count one less.", PlayEdges::places);
        edge(0, "Players take turns by their numbers, player 0 begins, and behind the last one comes player 0.",
                PlayEdges::rounds);
    }

    private static void cards() {
        edge(0, "A card can be played if its rank is 1 more than the rank of the top card of its color's pile.",
                PlayEdges::playable);
        edge(0, "If one is played that can be, it comes onto the pile, and if its rank is RANKS, a token comes back",
                PlayEdges::wholePiles);
        edge(0, "(never more than MOST); if one is played", PlayEdges::wholePilesWithoutRoom);
        edge(0, "if one is played that cannot be, it goes to the heap, and a life is lost.", PlayEdges::lostCards);
        edge(0, "A card that is discarded goes to the heap, and a token comes back", PlayEdges::discarded);
        edge(0, "goes to the heap, and a token comes back (never more than MOST).", PlayEdges::discardedWithoutRoom);
        edge(0, "Whoever has played or discarded a card draws the next card", PlayEdges::drawing);
        edge(0, "draws the next card, if there is one.", PlayEdges::nothingToDraw);
        edge(0, "A hint takes a token and one time of its word.", PlayEdges::hintCosts);
        edge(0, "It touches the cards of another player that have this color, or this rank;", PlayEdges::touching);
        edge(0, "of all cards of that hand it is known from then on whether they have it.", PlayEdges::knownOfAll);
    }

    private static void endings() {
        edge(0, "The game is over when no life is left", PlayEdges::lastLife);
        edge(0, "when all piles have the rank RANKS", PlayEdges::allPiles);
        edge(0, "it has PLAYERS turns and begins behind the turn in which the last card was drawn, which does not "
                + "count", PlayEdges::lastRounds);
        edge(0, "(at once, if none are to be drawn at the beginning).", PlayEdges::lastRoundAtOnce);
        edge(0, "The score is the sum of the ranks of the top cards of all piles, whatever ended the game.",
                PlayEdges::scores);
        edge(7, "Returns the player;", PlayEdges::rounds);
        edge(7, "NONE if the game is over.", PlayEdges::noTurn);
        edge(8, "Returns 0 if it is not;", PlayEdges::lastLife);
        edge(8, "otherwise the first one of these that is so: 1 if no lives are left, 2 if all piles are whole, 3 if "
                + "the last round is over.", PlayEdges::severalEndings);
    }

    private static void numbers() {
        edge(6, "`what`: 0 COLORS, 1 RANKS, 2 PLAYERS, 3 HAND", PlayEdges::counts);
        edge(6, "9 the turns left of the last round (NONE if it has not begun)", PlayEdges::lastRounds);
        edge(6, "10 turns that can be taken back", PlayEdges::takenBack);
        edge(6, "if what is out of range", () -> range(of(PLAIN), 0, 10, ARGUMENT, HintTeam::count));
        edge(9, "`color`: 0 to COLORS - 1", () -> needsColor(HintTeam::pile));
        edge(9, "Returns the rank;", PlayEdges::playable);
        edge(9, "0 for an empty pile.", PlayEdges::emptyPiles);
        edge(9, "if there is no such color", () -> needsColor(HintTeam::pile));
        edge(10, "Returns how many cards a player has.", PlayEdges::nothingToDraw);
        edge(10, "if there is no such player", () -> needsPlayer(HintTeam::hand));
        edge(11, "Returns 10 * its color + its rank.", PlayEdges::codes);
        edge(11, "`place`: a place in the player's hand", () -> needsCard(HintTeam::card));
        edge(11, "if there is no such player, or no card at the place", () -> needsCard(HintTeam::card));
        edge(12, "`index`: 0 for the one that is drawn next", PlayEdges::drawnNext);
        edge(12, "Returns 10 * its color + its rank;", PlayEdges::drawnNext);
        edge(12, "NONE if there is none.", PlayEdges::drawnBeyond);
        edge(13, "`color`: 0 to COLORS - 1", () -> needsColor((team, color) -> team.copies(color, 1, 0)));
        edge(13, "`rank`: 1 to RANKS", () -> needsKind((team, color, rank) -> team.copies(color, rank, 0)));
        edge(13, "`what`: 0 in the whole game, 1 in the heap, 2 in hands, 3 still to be drawn", PlayEdges::copies);
        edge(13, "if there is no such kind", () -> needsKind((team, color, rank) -> team.copies(color, rank, 3)));
        edge(13, "if what is out of range",
                () -> range(of(PLAIN), 0, 3, ARGUMENT, (team, what) -> team.copies(1, 3, what)));
    }

    private static void hints() {
        edge(16, "the colors that a card can have by the hints alone.", PlayEdges::byHintsAlone);
        edge(16, "Returns the sum of 2^c over these colors c.", PlayEdges::sums);
        edge(16, "if there is no such player, or no card at the place", () -> needsCard(HintTeam::colorsOf));
        edge(17, "the ranks that a card can have by the hints alone.", PlayEdges::byHintsAlone);
        edge(17, "Returns the sum of 2^(r - 1) over these ranks r.", PlayEdges::sums);
        edge(17, "if there is no such player, or no card at the place", () -> needsCard(HintTeam::ranksOf));
        edge(18, "Tells whether a card was touched by a hint.", PlayEdges::touched);
        edge(18, "if there is no such player, or no card at the place", () -> needsCard(HintTeam::isTouched));
        edge(22, "Returns how often a hint can still be given with a word.", PlayEdges::timesLeft);
        edge(22, "`word`: 0 for a color, 1 for a rank", () -> needsWord(HintTeam::wordsLeft));
        edge(22, "`value`: 0 to COLORS - 1, or 1 to RANKS", () -> needsWord(HintTeam::wordsLeft));
        edge(22, "Returns 0 to 99.", PlayEdges::timesLeft);
        edge(22, "if word or value is out of range", PlayEdges::wordsOfNewObjects);
        edge(23, "(of any player, also the one whose turn it is).", PlayEdges::touchesOfAnyPlayer);
        edge(23, "`word`: 0 for a color, 1 for a rank", () -> needsWord((t, w, v) -> t.touches(0, w, v)));
        edge(23, "`value`: 0 to COLORS - 1, or 1 to RANKS", () -> needsWord((t, w, v) -> t.touches(1, w, v)));
        edge(23, "Returns the sum of 2^k over the places k.", PlayEdges::touchedPlaces);
        edge(23, "if there is no such player", () -> needsPlayer((team, player) -> team.touches(player, 0, 0)));
        edge(23, "if word or value is out of range", () -> needsWord((t, w, v) -> t.touches(0, w, v)));
    }

    private static void turns() {
        edge(25, "The player whose turn it is plays a card (a turn).", () -> takesTurns(HintTeam::play));
        edge(26, "The player whose turn it is discards a card (a turn).", () -> takesTurns(HintTeam::discard));
        edge(27, "The player whose turn it is gives a hint to another player (a turn).",
                () -> takesTurns((team, rank) -> team.hint(team.turnOf() == 0 ? 1 : 0, 1, rank + 2)));
        edge(28, "The player whose turn it is, and who has no cards, passes (a turn).", PlayEdges::neverPasses);
        edge(28, "Returns the player whose turn it is then, NONE if the game is over then;", PlayEdges::neverPasses);
        edge(25, "Returns the score then;", PlayEdges::playable);
        edge(25, "OVER if the game is over.", () -> refusedWhenOver(HintTeam::play));
        edge(25, "`place`: the place in the hand", () -> needsOwnCard(HintTeam::play));
        edge(25, "if the game is not over and there is no card at the place", () -> needsOwnCard(HintTeam::play));
        edge(26, "Returns the tokens then;", PlayEdges::discardedWithoutRoom);
        edge(26, "OVER if the game is over.", () -> refusedWhenOver(HintTeam::discard));
        edge(26, "`place`: the place in the hand", () -> needsOwnCard(HintTeam::discard));
        edge(26, "if the game is not over and there is no card at the place", () -> needsOwnCard(HintTeam::discard));
        edge(27, "Returns how many cards it touches;", PlayEdges::touching);
        edge(27, "OVER if the game is over;", PlayEdges::hintsWhenOver);
        edge(27, "NO_TOKEN if there are no tokens;", PlayEdges::noTokens);
        edge(27, "NO_WORD if the word cannot be given any more", PlayEdges::wordsUsedUp);
        edge(27, "or touches no card.", PlayEdges::touchingNothing);
        edge(27, "`player`: another player", PlayEdges::hintsToOthers);
        edge(27, "if there is no such player, or the game is not over", PlayEdges::hintsToNobody);
        edge(27, "or the game is not over and it is the one whose turn it is", PlayEdges::hintsToOneself);
        edge(27, "`word`: 0 for a color, 1 for a rank", PlayEdges::hintValues);
        edge(27, "`value`: 0 to COLORS - 1, or 1 to RANKS", PlayEdges::hintValues);
        edge(27, "if word or value is out of range", PlayEdges::hintValues);
        edge(28, "NONE if the game is over then; OVER if the game is over;", PlayEdges::passesWhenOver);
        edge(28, "OVER if the game is over;", PlayEdges::passesWhenOver);
        edge(28, "HAS_CARDS if the player has cards.", PlayEdges::passesWithCards);
    }

    private static String handOf(HintTeam team, int player) {
        StringBuilder text = new StringBuilder();
        for (int place = 0; place < team.hand(player); place++) {
            text.append(place > 0 ? " " : "").append(team.card(player, place));
        }
        return text.toString();
    }

    private static void dealing() {
        HintTeam team = of("game 3 3 3 2;deck a1 a2 a3 b1 b2 b3 c1");
        due("player 0", handOf(team, 0), "1 2");
        due("player 1", handOf(team, 1), "3 11");
        due("player 2", handOf(team, 2), "12 13");
        due("the next card", team.drawn(0), 21);
        HintTeam all = of("game 4 5 4 5;deck a1 a2 a3 a4 a5 b1 b2 b3 b4 b5 c1 c2 c3 c4 c5 d1 d2 d3 d4 d5");
        due("player 0", handOf(all, 0), "1 2 3 4 5");
        due("player 3", handOf(all, 3), "31 32 33 34 35");
        due("nothing to be drawn", all.count(4), 0);
    }

    private static void places() {
        HintTeam team = of("game 3 5 2 3;deck a1 a2 a3 b1 b2 b3 c1 c2 c3 c4 c5 a4");
        team.discard(0);
        due("behind the first one", handOf(team, 0), "2 3 21");
        team.discard(1);
        due("behind the middle one", handOf(team, 1), "11 13 22");
        team.discard(2);
        due("behind the last one", handOf(team, 0), "2 3 23");
        team.play(0);
        due("behind a card that is played", handOf(team, 1), "13 22 24");
        team.play(1);
        due("behind a card that is lost", handOf(team, 0), "2 23 25");
        team.discard(0);
        due("the last card of the deck", handOf(team, 1), "22 24 4");
        team.discard(1);
        due("nothing is drawn", handOf(team, 0), "2 25");
        HintTeam one = of("game 1 2 2 1;deck a1 a2 a2");
        one.play(0);
        due("a hand of one card", handOf(one, 0), "2");
        String[] left = {"2 3 4 5 11", "1 3 4 5 11", "1 2 4 5 11", "1 2 3 5 11", "1 2 3 4 11"};
        for (int place = 0; place < 5; place++) {
            HintTeam five = of("game 2 5 2 5;deck a1 a2 a3 a4 a5 a1 a2 a3 a4 a5 b1 b1");
            five.discard(place);
            due("behind place " + place + " of five", handOf(five, 0), left[place]);
            due("the other hand", handOf(five, 1), "1 2 3 4 5");
            five.discard(place);
            due("behind place " + place + " of five", handOf(five, 1), left[place]);
        }
    }

    private static void rounds() {
        for (int players = 2; players <= 4; players++) {
            HintTeam team = of("game 1 2 " + players + " 1;deck" + " a2".repeat(20));
            for (int k = 0; k < 2 * players + 1; k++) {
                due("turn " + k + " of " + players + " players", team.turnOf(), k % players);
                due("its player in the log", k == 0 ? 0 : team.logPart(0, 0), k == 0 ? 0 : (k - 1) % players);
                team.discard(0);
            }
        }
    }

    private static void playable() {
        HintTeam team = of("game 2 3 2 3;deck a2 a1 a3 a1 a2 b1 b2 a1 a1 a1 a1 a1 a1;lives 5");
        due("2 above the top", team.play(0), 0);
        due("lives", team.count(6), 4);
        due("1 above the top", team.play(0), 1);
        due("pile", team.pile(0), 1);
        due("2 above the top", team.play(1), 1);
        due("the rank of the top", team.play(2), 1);
        due("1 above the top of another pile only", team.play(1), 1);
        due("lives", team.count(6), 1);
        due("1 above the top", team.play(0), 2);
        due("pile", team.pile(0), 2);
        due("pile of the other color", team.pile(1), 0);
        due("lives", team.count(6), 1);
        due("less than the top", team.play(0), 2);
        due("lives", team.count(6), 0);
    }

    private static void wholePiles() {
        HintTeam team = of("game 1 2 2 1;deck a1 a2 a1 a1;tokens 3 1");
        team.play(0);
        due("tokens for rank 1 of 2", team.count(5), 1);
        due("heap", team.copies(0, 1, 1), 0);
        team.play(0);
        due("tokens for rank 2 of 2", team.count(5), 2);
        due("came back", team.total(4), 1);
        HintTeam low = of("game 2 1 2 1;deck a1 b1 a1;tokens 9 0");
        low.play(0);
        due("tokens for rank 1 of 1", low.count(5), 1);
        low.play(0);
        due("tokens for another pile", low.count(5), 2);
    }

    private static void wholePilesWithoutRoom() {
        HintTeam team = of("game 2 1 2 1;deck a1 b1 a1;tokens 9 8");
        team.play(0);
        due("9 of 9", team.count(5), 9);
        team.play(0);
        due("no more than 9", team.count(5), 9);
        due("came back", team.total(4), 1);
        HintTeam one = of("game 2 1 2 1;deck a1 b1 a1;tokens 1 1");
        one.play(0);
        due("no more than 1", one.count(5), 1);
        due("none came back", one.total(4), 0);
    }

    private static void lostCards() {
        HintTeam team = of("game 2 1 2 1;deck a1 a1 b1 b1;tokens 3 1");
        team.play(0);
        due("heap", team.copies(0, 1, 1), 0);
        team.play(0);
        due("heap behind a card that is lost", team.copies(0, 1, 1), 1);
        due("lives", team.count(6), 2);
        due("pile", team.pile(0), 1);
        due("no token comes back", team.count(5), 2);
        due("it is not discarded", team.total(2), 0);
    }

    private static void discarded() {
        HintTeam team = of("game 2 1 2 1;deck a1 a1 b1 b1;tokens 3 0");
        due("tokens", team.discard(0), 1);
        due("heap", team.copies(0, 1, 1), 1);
        due("lives", team.count(6), 3);
        due("pile", team.pile(0), 0);
        due("tokens", team.discard(0), 2);
        due("heap", team.copies(0, 1, 1), 2);
    }

    private static void discardedWithoutRoom() {
        for (int most = 1; most <= 9; most++) {
            HintTeam team = of("game 2 1 2 1;deck a1 a1 b1 b1;tokens " + most + " " + (most - 1));
            due("tokens", team.discard(0), most);
            due("no more than " + most, team.discard(0), most);
            due("came back", team.total(4), 1);
        }
    }

    private static void drawing() {
        HintTeam team = of("game 2 2 2 1;deck a1 a2 b2 b1 a2 b1");
        team.play(0);
        due("behind a card that is played", handOf(team, 0), "12");
        team.hint(0, 1, 2);
        due("nothing behind a hint", handOf(team, 1), "2");
        due("nothing for who gets it", handOf(team, 0), "12");
        team.play(0);
        due("behind a card that is lost", handOf(team, 0), "11");
        team.discard(0);
        due("behind a card that is discarded", handOf(team, 1), "2");
        due("to be drawn", team.count(4), 1);
        HintTeam whole = of("game 1 1 2 1;deck a1 a1 a1 a1");
        whole.play(0);
        due("behind the turn that ends the game", whole.hand(0), 1);
        due("to be drawn", whole.count(4), 1);
        HintTeam lost = of("game 1 2 2 1;deck a2 a1 a1 a1;lives 1");
        lost.play(0);
        due("behind the turn that loses the last life", handOf(lost, 0), "1");
    }

    private static void nothingToDraw() {
        HintTeam team = of("game 2 1 3 2;deck a1 a1 a1 a1 a1 a1 b1");
        team.discard(0);
        due("the last card", handOf(team, 0), "1 11");
        team.discard(1);
        due("a smaller hand behind a discard", team.hand(1), 1);
        team.play(0);
        due("a smaller hand behind a play", team.hand(2), 1);
        team.play(0);
        due("a smaller hand behind a loss", team.hand(0), 1);
        HintTeam one = of("game 2 1 2 1;deck a1 a1");
        one.discard(0);
        due("an empty hand", one.hand(0), 0);
    }

    private static void hintCosts() {
        HintTeam team = of("game 2 2 2 2;deck a1 b2 a1 b2 a1;tokens 5 2;color 1 1;rank 1 2");
        team.hint(1, 0, 1);
        due("tokens", team.count(5), 1);
        due("color 1", team.wordsLeft(0, 1), 0);
        due("color 0", team.wordsLeft(0, 0), 99);
        due("rank 1", team.wordsLeft(1, 1), 2);
        team.hint(0, 1, 1);
        due("tokens", team.count(5), 0);
        due("rank 1", team.wordsLeft(1, 1), 1);
        due("rank 2", team.wordsLeft(1, 2), 99);
        due("color 1", team.wordsLeft(0, 1), 0);
    }

    private static void touching() {
        HintTeam team = of("game 3 5 3 5;deck a1 a2 a3 b4 b5 a1 b1 c1 a5 b5 c5 c5 c4 c3 c2 a1;tokens 9 9");
        due("one card of a color", team.hint(1, 0, 2), 1);
        due("all cards of a color", team.hint(2, 0, 2), 5);
        due("three cards of a color", team.hint(0, 0, 0), 3);
        due("three cards of a rank", team.hint(1, 1, 1), 3);
        due("two cards of a rank", team.hint(2, 1, 5), 2);
        due("the last card of a hand", team.hint(0, 1, 5), 1);
        due("touched", team.total(5), 15);
        due("no card of the own hand", team.isTouched(1, 3), false);
        due("no card of a third player", team.isTouched(0, 3), false);
    }

    private static void knownOfAll() {
        HintTeam team = of("game 3 3 2 3;deck a1 b2 c3 a1 b2 c3 a1 a1 a1;tokens 9 9");
        team.hint(1, 0, 1);
        int[] colors = {5, 2, 5};
        for (int place = 0; place < 3; place++) {
            due("colors at " + place, team.colorsOf(1, place), colors[place]);
            due("ranks at " + place, team.ranksOf(1, place), 7);
            due("colors of the other hand at " + place, team.colorsOf(0, place), 7);
        }
        team.hint(0, 1, 3);
        int[] ranks = {3, 3, 4};
        for (int place = 0; place < 3; place++) {
            due("ranks at " + place, team.ranksOf(0, place), ranks[place]);
            due("ranks of the other hand at " + place, team.ranksOf(1, place), 7);
        }
        team.hint(1, 0, 2);
        due("what is left of two hints", team.colorsOf(1, 0), 1);
        due("known already", team.colorsOf(1, 1), 2);
        team.discard(0);
        team.discard(0);
        due("it goes with the card", team.colorsOf(1, 0), 2);
        due("nothing is known of a card that is drawn later", team.colorsOf(0, 2), 7);
    }

    private static void lastLife() {
        for (int lives = 1; lives <= 5; lives++) {
            HintTeam team = of("game 2 2 2 1;deck" + " a2".repeat(9) + ";lives " + lives);
            for (int left = lives; left > 0; left--) {
                due("lives", team.count(6), left);
                due("over with lives", team.over(), 0);
                team.play(0);
            }
            due("over without lives", team.over(), 1);
            due("no life below 0", team.count(6), 0);
        }
    }

    private static void allPiles() {
        HintTeam team = of("game 4 1 2 2;deck a1 b1 c1 d1 a1 a1 a1 a1 a1");
        team.play(0);
        team.play(0);
        team.play(0);
        due("one pile lacks", team.over(), 0);
        team.play(0);
        due("no pile lacks", team.over(), 2);
        HintTeam high = of("game 1 5 2 2;deck a1 a2 a3 a4 a5 a1 a1 a1 a1");
        for (int place : new int[] {0, 1, 0, 1}) {
            due("one rank lacks", high.over(), 0);
            high.discard(place);
        }
        HintTeam low = of("game 1 5 2 1;deck a1 a2 a3 a4 a5 a1 a1 a1 a1");
        for (int rank = 1; rank <= 5; rank++) {
            due("rank " + rank + " lacks", low.over(), 0);
            due("rank " + rank, low.play(0), rank);
        }
        due("a whole pile", low.over(), 2);
    }

    private static void lastRounds() {
        for (int players = 2; players <= 4; players++) {
            HintTeam team = of("game 2 2 " + players + " 1;deck" + " a2".repeat(players) + " b2 b2");
            team.discard(0);
            due("not begun", team.count(9), NONE);
            team.hint(0, 1, 2);
            due("not begun by a hint", team.count(9), NONE);
            team.discard(0);
            due("the turn that drew the last card does not count", team.count(9), players);
            for (int left = players; left > 0; left--) {
                due("turns left of " + players + " players", team.count(9), left);
                due("over", team.over(), 0);
                team.hint(team.turnOf() == 0 ? 1 : 0, 1, 2);
                if (team.count(9) == left) {
                    team.discard(0);
                }
            }
            due("turns left", team.count(9), 0);
            due("over", team.over(), 3);
            due("one turn", team.play(0), OVER);
        }
        HintTeam played = of("game 2 2 2 1;deck a1 a1 a1");
        played.play(0);
        due("behind a card that is played", played.count(9), 2);
        HintTeam lost = of("game 2 2 2 1;deck a2 a1 a1");
        lost.play(0);
        due("behind a card that is lost", lost.count(9), 2);
        hintsInLastRounds();
    }

    /** Whoever begins the last round, each one can give a hint to each other one in it. */
    private static void hintsInLastRounds() {
        for (int first = 0; first < 4; first++) {
            HintTeam team = of("game 1 2 4 1;deck" + " a2".repeat(8 + first) + ";tokens 9 9");
            while (team.count(9) == NONE) {
                team.discard(0);
            }
            due("the last round begins", team.turnOf(), first);
            for (int k = 0; k < 4; k++) {
                int self = (first + k) % 4;
                for (int more = 1; more < 4; more++) {
                    due("player " + self + ", " + more + " ahead", team.hint((self + more) % 4, 1, 2), 1);
                    team.undo();
                }
                team.hint((self + 1) % 4, 1, 2);
            }
            due("over", team.over(), 3);
        }
    }

    private static void lastRoundAtOnce() {
        for (int players = 2; players <= 4; players++) {
            HintTeam team = of("game 2 2 " + players + " 1;deck" + " a2".repeat(players));
            for (int left = players; left > 0; left--) {
                due("turns left of " + players + " players", team.count(9), left);
                due("over", team.over(), 0);
                team.discard(0);
            }
            due("turns left", team.count(9), 0);
            due("over", team.over(), 3);
        }
        due("one card to be drawn", of("game 2 2 2 1;deck a2 a2 a2").count(9), NONE);
    }

    private static void scores() {
        HintTeam lost = of("game 3 3 2 2;deck a1 b1 a2 b2 a1 a1 a1 a1 a1;lives 1");
        due("nothing yet", lost.count(7), 0);
        lost.play(0);
        lost.play(0);
        due("a2", lost.count(7), 2);
        lost.play(0);
        due("a2 and b1", lost.count(7), 3);
        lost.play(1);
        due("no lives", lost.over(), 1);
        due("the score stays", lost.count(7), 3);
        HintTeam round = of("game 2 2 2 1;deck a1 a2");
        round.play(0);
        round.discard(0);
        due("last round", round.over(), 3);
        due("the score stays", round.count(7), 1);
        HintTeam most = of("game 4 1 2 2;deck a1 b1 c1 d1 a1 a1 a1 a1 a1");
        most.follow(1);
        most.undo();
        for (int k = 0; k < 4; k++) {
            due("score", most.play(0), k + 1);
        }
        due("whole piles", most.count(7), 4);
    }

    private static void noTurn() {
        due("a new object", new HintTeam().turnOf(), NONE);
        HintTeam lives = of("game 2 2 2 1;deck a2 a2 a2;lives 1");
        lives.play(0);
        due("no lives", lives.turnOf(), NONE);
        HintTeam piles = of("game 1 1 2 1;deck a1 a1 a1 a1");
        piles.play(0);
        due("whole piles", piles.turnOf(), NONE);
        HintTeam round = of("game 1 1 2 1;deck a1 a1");
        round.discard(0);
        due("one turn left", round.turnOf(), 1);
        round.discard(0);
        due("last round", round.turnOf(), NONE);
    }

    private static void severalEndings() {
        HintTeam lives = of("game 2 1 2 1;deck a1 a1;lives 1");
        lives.play(0);
        lives.play(0);
        due("turns left", lives.count(9), 0);
        due("no lives before the last round", lives.over(), 1);
        HintTeam piles = of("game 1 2 2 1;deck a1 a2");
        piles.play(0);
        piles.play(0);
        due("turns left", piles.count(9), 0);
        due("whole piles before the last round", piles.over(), 2);
        HintTeam round = of("game 1 2 2 1;deck a1 a1;lives 2");
        round.play(0);
        round.play(0);
        due("a life is left", round.count(6), 1);
        due("the last round", round.over(), 3);
    }

    private static void counts() {
        HintTeam team = of("game 3 4 2 3;deck a1 a1 b2 c1 c2 b4 a1 a1;tokens 7 5;lives 4");
        int[] before = {3, 4, 2, 3, 2, 5, 4, 0, 0, NONE, 0};
        for (int what = 0; what <= 10; what++) {
            due("count(" + what + ")", team.count(what), before[what]);
        }
        team.play(0);
        team.play(2);
        team.discard(0);
        int[] behind = {3, 4, 2, 3, 0, 6, 3, 1, 3, 1, 3};
        for (int what = 0; what <= 10; what++) {
            due("count(" + what + ") behind", team.count(what), behind[what]);
        }
    }

    private static void takenBack() {
        HintTeam team = of("game 1 2 2 1;deck" + " a1".repeat(40));
        for (int k = 0; k < 25; k++) {
            due("turns", team.count(10), Math.min(k, 20));
            team.discard(0);
        }
        due("turns that were taken", team.count(8), 25);
        team.undo();
        due("one less", team.count(10), 19);
    }

    private static void emptyPiles() {
        HintTeam team = of("game 4 1 2 1;deck d1 a1 a1");
        for (int color = 0; color < 4; color++) {
            due("pile " + color, team.pile(color), 0);
        }
        team.play(0);
        for (int color = 0; color < 4; color++) {
            due("pile " + color, team.pile(color), color == 3 ? 1 : 0);
        }
    }

    private static void codes() {
        HintTeam team = of("game 4 5 2 2;deck a1 a5 d1 d5");
        due("a1", team.card(0, 0), 1);
        due("a5", team.card(0, 1), 5);
        due("d1", team.card(1, 0), 31);
        due("d5", team.card(1, 1), 35);
    }

    private static void drawnNext() {
        HintTeam team = of("game 4 5 2 1;deck a1 a2 d5 b1 a5");
        int[] cards = {35, 11, 5, NONE};
        for (int index = 0; index < 4; index++) {
            due("drawn " + index, team.drawn(index), cards[index]);
        }
        team.discard(0);
        due("the next one then", team.drawn(0), 11);
        due("it was drawn", team.card(0, 0), 35);
    }

    private static void drawnBeyond() {
        HintTeam team = of("game 4 5 2 1;deck a1 a2 d5 b1");
        for (int index : new int[] {-1, 2, 3, 40, Integer.MAX_VALUE, Integer.MAX_VALUE - 1, Integer.MIN_VALUE}) {
            due("drawn " + index, team.drawn(index), NONE);
        }
        team.discard(0);
        due("one less", team.drawn(1), NONE);
        team.discard(0);
        due("none left", team.drawn(0), NONE);
        due("none at the beginning", of("game 1 1 2 1;deck a1 a1").drawn(0), NONE);
        HintTeam most = of("game 1 1 2 1;deck" + " a1".repeat(40));
        due("the last one of 40", most.drawn(37), 1);
        due("behind it", most.drawn(38), NONE);
    }

    private static void copies(HintTeam team, int color, int rank, int... due) {
        for (int what = 0; what < 4; what++) {
            due("copies(" + color + ", " + rank + ", " + what + ")", team.copies(color, rank, what), due[what]);
        }
    }

    private static void copies() {
        HintTeam team = of("game 2 2 2 2;deck a1 a1 a1 b2 a1 b2 b2");
        copies(team, 0, 1, 4, 0, 3, 1);
        copies(team, 1, 2, 3, 0, 1, 2);
        copies(team, 0, 2, 0, 0, 0, 0);
        team.play(0);
        copies(team, 0, 1, 4, 0, 3, 0);
        team.play(0);
        copies(team, 0, 1, 4, 1, 2, 0);
        copies(team, 1, 2, 3, 0, 2, 1);
        team.discard(1);
        copies(team, 0, 1, 4, 2, 1, 0);
        copies(team, 1, 2, 3, 0, 3, 0);
        copies(of("game 1 1 2 1;deck" + " a1".repeat(40)), 0, 1, 40, 0, 2, 38);
        HintTeam five = of("game 2 2 2 5;deck a1 a1 a1 a1 b2 b2 b2 b2 b2 a1");
        copies(five, 0, 1, 5, 0, 5, 0);
        copies(five, 1, 2, 5, 0, 5, 0);
        five.discard(4);
        copies(five, 0, 1, 5, 0, 5, 0);
        copies(five, 1, 2, 5, 1, 4, 0);
        HintTeam unequal = of("game 2 2 3 2;deck b2 a1 b2 b2 b2 a1");
        unequal.discard(0);
        copies(unequal, 0, 1, 2, 0, 2, 0);
        unequal.discard(0);
        copies(unequal, 0, 1, 2, 0, 2, 0);
        copies(unequal, 1, 2, 4, 2, 2, 0);
    }

    private static void byHintsAlone() {
        // Player 0 sees the only cards of a1 and b2, which the hints do not tell.
        HintTeam team = of("game 2 2 2 1;deck b1 a1 b2;tokens 3 3");
        due("colors", team.colorsOf(0, 0), 3);
        due("ranks", team.ranksOf(0, 0), 3);
        due("kinds", team.thinks(0, 0), 2);
        team.hint(1, 0, 0);
        due("the color that was told", team.colorsOf(1, 0), 1);
        due("no rank was told", team.ranksOf(1, 0), 3);
        team.hint(0, 1, 1);
        due("the rank that was told", team.ranksOf(0, 0), 1);
        due("no color was told, though it can only be b", team.colorsOf(0, 0), 3);
        due("kinds", team.thinks(0, 0), 1);
    }

    private static void sums() {
        for (int colors = 1; colors <= 4; colors++) {
            for (int ranks = 1; ranks <= 5; ranks++) {
                HintTeam team = of("game " + colors + " " + ranks + " 2 1;deck a1 a1");
                due("all of " + colors + " colors", team.colorsOf(1, 0), (1 << colors) - 1);
                due("all of " + ranks + " ranks", team.ranksOf(1, 0), (1 << ranks) - 1);
            }
        }
        HintTeam team = of("game 4 5 2 2;deck a1 d5 a1 d5 a1;tokens 9 9");
        team.hint(1, 0, 3);
        due("the last color", team.colorsOf(1, 1), 8);
        due("all but the last one", team.colorsOf(1, 0), 7);
        team.hint(0, 0, 0);
        due("the first color", team.colorsOf(0, 0), 1);
        due("all but the first one", team.colorsOf(0, 1), 14);
        team.hint(1, 1, 5);
        due("the last rank", team.ranksOf(1, 1), 16);
        due("all but the last one", team.ranksOf(1, 0), 15);
        team.hint(0, 1, 1);
        due("the first rank", team.ranksOf(0, 0), 1);
        due("all but the first one", team.ranksOf(0, 1), 30);
    }

    private static void touched() {
        HintTeam team = of("game 2 2 3 2;deck a1 b2 a1 b2 a1 b2 b1 b1;tokens 9 9");
        team.hint(1, 0, 0);
        for (int player = 0; player < 3; player++) {
            due("a1 of player " + player, team.isTouched(player, 0), player == 1);
            due("b2 of player " + player, team.isTouched(player, 1), false);
        }
        team.hint(0, 1, 2);
        due("by a rank", team.isTouched(0, 1), true);
        due("not by a rank", team.isTouched(0, 0), false);
        team.hint(1, 0, 1);
        due("still", team.isTouched(1, 0), true);
        team.discard(1);
        due("a card that is drawn at its place", team.isTouched(0, 1), false);
        team.undo();
        team.undo();
        due("taken back", team.isTouched(1, 1), false);
        HintTeam last = of("game 2 2 4 5;deck" + " a1".repeat(19) + " b2" + " a1".repeat(20));
        last.hint(3, 1, 2);
        due("the last card that is dealt", last.isTouched(3, 4), true);
        due("its neighbour", last.isTouched(3, 3), false);
        HintTeam late = of("game 2 2 2 1;deck" + " a1".repeat(39) + " b2;tokens 9 9");
        for (int k = 0; k < 38; k++) {
            late.discard(0);
        }
        late.hint(1, 1, 2);
        due("the fortieth card", late.isTouched(1, 0), true);
        due("the card before it", late.isTouched(0, 0), false);
    }

    private static void timesLeft() {
        HintTeam team = of("game 2 2 2 1;deck a1 a1 a1;tokens 9 9;color 0 2;rank 2 0");
        due("0 from the beginning", team.wordsLeft(1, 2), 0);
        due("99", team.wordsLeft(1, 1), 99);
        for (int left = 2; left > 0; left--) {
            due("color 0", team.wordsLeft(0, 0), left);
            team.hint(1 - team.turnOf(), 0, 0);
        }
        due("color 0", team.wordsLeft(0, 0), 0);
        team.hint(1, 0, 0);
        due("no less than 0", team.wordsLeft(0, 0), 0);
        team.hint(1, 1, 1);
        due("98", team.wordsLeft(1, 1), 98);
        team.undo();
        due("taken back", team.wordsLeft(1, 1), 99);
    }

    private static void wordsOfNewObjects() {
        HintTeam team = new HintTeam();
        for (int word = -1; word <= 2; word++) {
            for (int value = -1; value <= 1; value++) {
                int asked = word;
                int told = value;
                fails("word " + word + ", value " + value, ARGUMENT, () -> team.wordsLeft(asked, told));
            }
        }
        needsWord(HintTeam::wordsLeft);
    }

    private static void touchesOfAnyPlayer() {
        HintTeam team = of("game 2 2 3 2;deck a1 b2 b1 a1 b2 b2;tokens 1 0;color 0 0");
        int[][] due = {{1, 2}, {2, 1}, {0, 3}};
        for (int player = 0; player < 3; player++) {
            due("color 0 of player " + player, team.touches(player, 0, 0), due[player][0]);
            due("color 1 of player " + player, team.touches(player, 0, 1), due[player][1]);
        }
        HintTeam over = of("game 1 1 2 1;deck a1 a1");
        over.play(0);
        due("an empty hand", over.touches(0, 0, 0), 0);
        due("when the game is over", over.touches(1, 1, 1), 1);
    }

    private static void touchedPlaces() {
        HintTeam team = of("game 4 5 2 5;deck a1 b2 a1 c3 d5 d5 d5 d5 d5 d5");
        due("places 0 and 2", team.touches(0, 0, 0), 5);
        due("place 4", team.touches(0, 0, 3), 16);
        due("place 1", team.touches(0, 1, 2), 2);
        due("none", team.touches(0, 1, 4), 0);
        due("all", team.touches(1, 1, 5), 31);
    }

    private static void takesTurns(OfNumber turn) {
        HintTeam team = of("game 1 2 3 1;deck" + " a2".repeat(20) + ";lives 5");
        for (int k = 0; k < 4; k++) {
            due("player", team.turnOf(), k % 3);
            due("turn " + k, (int) turn.ask(team, 0) >= 0, true);
            due("turns", team.count(8), k + 1);
            due("the next player", team.turnOf(), (k + 1) % 3);
            due("the player of the turn", team.logPart(0, 0), k % 3);
            due("turns that can be taken back", team.count(10), k + 1);
        }
    }

    /** Nobody's turn comes without cards: the last round has one turn for each player. */
    private static void neverPasses() {
        for (int players = 2; players <= 4; players++) {
            HintTeam team = of("game 2 2 " + players + " 1;deck" + " a1 b2".repeat(3));
            for (int k = 0; k < 20 && team.over() == 0; k++) {
                due("turn " + k, team.pass(), HintTeam.HAS_CARDS);
                team.discard(0);
            }
            due("over", team.over(), 3);
            due("then", team.pass(), OVER);
        }
    }

    private static void needsOwnCard(OfNumber turn) {
        HintTeam team = of("game 2 2 2 3;deck a1 a1 a1 a2 a2 a2 b1 b1 b1;lives 5");
        for (int k = 0; k < 2; k++) {
            for (int place : new int[] {-1, 3, 4, 5, Integer.MIN_VALUE, Integer.MAX_VALUE}) {
                fails("place " + place, INDEX, () -> turn.ask(team, place));
            }
            due("turns", team.count(8), k);
            turn.ask(team, 2);
            due("turns behind place 2", team.count(8), k + 1);
        }
        HintTeam round = of("game 2 2 2 2;deck a1 a1 a1 a1 a1");
        round.discard(0);
        round.discard(0);
        round.undo();
        fails("place 2 of 2", INDEX, () -> turn.ask(round, 2));
        turn.ask(round, 1);
        due("turns behind place 1", round.count(8), 2);
    }

    private static void refusedWhenOver(OfNumber turn) {
        HintTeam lives = of("game 2 2 2 1;deck a2 a2 a2;lives 1");
        lives.play(0);
        HintTeam piles = of("game 1 1 2 1;deck a1 a1 a1 a1");
        piles.play(0);
        HintTeam round = of("game 2 1 2 1;deck a1 a1");
        round.discard(0);
        round.discard(0);
        for (HintTeam team : new HintTeam[] {new HintTeam(), lives, piles, round}) {
            for (int place : new int[] {0, 1, -1, 5, Integer.MIN_VALUE, Integer.MAX_VALUE}) {
                due("place " + place + " when it is over", turn.ask(team, place), OVER);
            }
            keeps("a turn when it is over", team, () -> turn.ask(team, 0));
        }
    }

    private static void hintsWhenOver() {
        HintTeam team = of("game 2 1 3 1;deck a1 a1 b1 b1;lives 1;tokens 1 0;color 1 0");
        team.play(0);
        team.play(0);
        due("over", team.over(), 1);
        due("before NO_TOKEN and NO_WORD", team.hint(0, 0, 1), OVER);
        for (int player = 0; player < 3; player++) {
            due("to player " + player, team.hint(player, 1, 1), OVER);
        }
        fails("no such player", INDEX, () -> team.hint(3, 1, 1));
        fails("no such word", ARGUMENT, () -> team.hint(0, 1, 2));
    }

    private static void noTokens() {
        HintTeam team = of("game 2 2 2 1;deck a1 a1 a1 a1;tokens 2 1;color 0 1");
        due("one token", team.hint(1, 0, 0), 1);
        due("no token", team.hint(0, 1, 1), HintTeam.NO_TOKEN);
        due("no token, and the word cannot be given", team.hint(0, 0, 0), HintTeam.NO_TOKEN);
        due("no token, and the word touches no card", team.hint(0, 1, 2), HintTeam.NO_TOKEN);
        team.discard(0);
        due("one token again", team.hint(1, 1, 1), 1);
        due("none from the beginning", of("game 2 2 2 1;deck a1 a1;tokens 9 0").hint(1, 0, 0), HintTeam.NO_TOKEN);
    }

    private static void wordsUsedUp() {
        HintTeam team = of("game 2 2 2 1;deck a1 a1 a1 a1;color 0 1;rank 1 0");
        due("never", team.hint(1, 1, 1), HintTeam.NO_WORD);
        due("once", team.hint(1, 0, 0), 1);
        due("not twice", team.hint(0, 0, 0), HintTeam.NO_WORD);
        team.undo();
        due("once more", team.hint(1, 0, 0), 1);
    }

    private static void touchingNothing() {
        HintTeam team = of("game 2 2 3 1;deck a1 a2 b1 a1");
        due("a color", team.hint(1, 0, 1), HintTeam.NO_WORD);
        due("a rank", team.hint(1, 1, 1), HintTeam.NO_WORD);
        due("a rank of the own hand and another one", team.hint(2, 1, 2), HintTeam.NO_WORD);
        due("turns", team.count(8), 0);
        HintTeam empty = of("game 2 1 2 1;deck a1 a1");
        empty.discard(0);
        due("an empty hand", empty.hint(0, 0, 0), HintTeam.NO_WORD);
    }

    private static void hintsToOthers() {
        HintTeam team = of("game 1 1 4 1;deck a1 a1 a1 a1 a1;tokens 9 9");
        for (int k = 0; k < 8; k++) {
            int self = k % 4;
            int other = (self + 1 + k % 3) % 4;
            fails("to oneself, player " + self, INDEX, () -> team.hint(self, 0, 0));
            due("to player " + other, team.hint(other, 0, 0), 1);
        }
    }

    private static void hintsToNobody() {
        needsPlayer((team, player) -> player == team.turnOf() ? NONE : team.hint(player, 0, 0));
        HintTeam team = of(PLAIN);
        for (int player : new int[] {-1, 2, 3, Integer.MIN_VALUE, Integer.MAX_VALUE}) {
            fails("player " + player, INDEX, () -> team.hint(player, 1, 2));
            fails("player " + player + ", no such word", INDEX, () -> team.hint(player, 9, 9));
        }
    }

    private static void hintsToOneself() {
        HintTeam team = of("game 2 2 2 1;deck a1 a1 a1 a1;tokens 1 1");
        fails("player 0", INDEX, () -> team.hint(0, 0, 0));
        fails("player 0, no such word", INDEX, () -> team.hint(0, 0, 2));
        team.hint(1, 0, 0);
        fails("player 1", INDEX, () -> team.hint(1, 0, 0));
        fails("player 1, before NO_TOKEN", INDEX, () -> team.hint(1, 0, 0));
        HintTeam over = of("game 1 1 2 1;deck a1 a1 a1");
        over.play(0);
        due("when it is over", over.hint(0, 0, 0), OVER);
        due("when it is over", over.hint(1, 0, 0), OVER);
    }

    private static void hintValues() {
        needsWord((team, word, value) -> team.hint(1 - team.turnOf(), word, value));
        HintTeam none = of("game 2 2 2 1;deck a1 a1 a1 a1;tokens 1 0");
        fails("no token, no such color", ARGUMENT, () -> none.hint(1, 0, 2));
        fails("no token, no such rank", ARGUMENT, () -> none.hint(1, 1, 0));
    }

    private static void passesWhenOver() {
        due("a new object", new HintTeam().pass(), OVER);
        HintTeam team = of("game 2 1 2 1;deck a1 a1");
        team.discard(0);
        due("one turn left", team.pass(), HintTeam.HAS_CARDS);
        team.discard(0);
        due("over, without cards", team.pass(), OVER);
        HintTeam piles = of("game 1 1 2 1;deck a1 a1 a1");
        piles.play(0);
        due("over, with cards", piles.pass(), OVER);
    }

    private static void passesWithCards() {
        HintTeam team = of("game 1 2 2 2;deck a2 a2 a2 a2;tokens 1 0");
        due("two cards", team.pass(), HintTeam.HAS_CARDS);
        keeps("pass", team, team::pass);
        team.discard(0);
        due("no card of the deck", team.pass(), HintTeam.HAS_CARDS);
        HintTeam one = of("game 1 2 2 1;deck a2 a2;tokens 1 0");
        due("one card", one.pass(), HintTeam.HAS_CARDS);
    }
}
