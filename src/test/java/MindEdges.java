import java.util.function.Consumer;

/** The edges of sections 3 and 4 and of promises 14, 15, 19 to 21, 24 and 29 to 31: what is known and advised. */
final class MindEdges extends Edges {
    private static final int NONE = HintTeam.NONE;
    private static final int OVER = HintTeam.OVER;
    private static final String MANY = " a1 b2 c3 d4 a2 b1 c1 d5";

    static void run() {
        knowledge();
        promisesOfKnowledge();
        advice();
        promisesOfAdvice();
    }

    private static void knowledge() {
        edge(0, "if the hints leave its color and its rank", MindEdges::leftByHints);
        edge(0, "and not all cards of this kind are in the heap", MindEdges::inTheHeap);
        edge(0, "not all cards of this kind are in the heap, on piles", MindEdges::onPiles);
        edge(0, "or in hands of other players.", MindEdges::inOtherHands);
        edge(0, "(Cards on a pile are those of the color with ranks up to its top, one each.)", MindEdges::pileCards);
        edge(0, "A kind can be played if a card of it can be;", MindEdges::playableKinds);
        edge(0, "it is useless if its rank is on its pile already", MindEdges::uselessOnPile);
        edge(0, "or if of a lower rank of its color that is not on the pile", MindEdges::uselessAboveLost);
        edge(0, "or of itself, all cards are in the heap", MindEdges::uselessWhenLost);
        edge(0, "(also if the game has none of this kind).", MindEdges::uselessWithoutCards);
        edge(0, "A player knows that a card can be played, or that it is useless, if all kinds that are thought "
                + "possible for it can be played, or all are useless.", MindEdges::knownOfAllKinds);
    }

    private static void promisesOfKnowledge() {
        edge(14, "Returns true if it is.", MindEdges::uselessOnPile);
        edge(14, "`color`: 0 to COLORS - 1", () -> needsColor((team, color) -> team.isUseless(color, 1)));
        edge(14, "`rank`: 1 to RANKS", () -> needsKind(HintTeam::isUseless));
        edge(14, "if there is no such kind", () -> needsKind(HintTeam::isUseless));
        edge(15, "not useless, and all its cards but one are in the heap.", MindEdges::critical);
        edge(15, "`color`: 0 to COLORS - 1", () -> needsColor((team, color) -> team.isCritical(color, 1)));
        edge(15, "`rank`: 1 to RANKS", () -> needsKind(HintTeam::isCritical));
        edge(15, "if there is no such kind", () -> needsKind(HintTeam::isCritical));
        edge(19, "Returns how many kinds the player thinks possible", MindEdges::inOtherHands);
        edge(19, "if there is no such player, or no card at the place", () -> needsCard(HintTeam::thinks));
        edge(20, "by colors, then by ranks.", MindEdges::thoughtsInOrder);
        edge(20, "`index`: 0 for the first one", MindEdges::thoughtsInOrder);
        edge(20, "NONE if there is no such kind.", MindEdges::noSuchThought);
        edge(20, "if there is no such player, or no card at the place", MindEdges::thoughtsOfNoCard);
        edge(21, "Returns 0 nothing of the following, 1 that it can be played, 2 that it is useless;",
                MindEdges::knownOfAllKinds);
        edge(21, "of a card of which no kind is possible 0.", MindEdges::someKindIsPossible);
        edge(21, "if there is no such player, or no card at the place", () -> needsCard(HintTeam::knows));
        edge(24, "(of any player, also the one whose turn it is)", MindEdges::tellsAnyPlayer);
        edge(24, "would know behind a hint that they can be played, but does not know it yet.", MindEdges::tellsNews);
        edge(24, "`word`: 0 for a color, 1 for a rank", () -> needsWord((t, w, v) -> t.tells(0, w, v)));
        edge(24, "`value`: 0 to COLORS - 1, or 1 to RANKS", () -> needsWord((t, w, v) -> t.tells(1, w, v)));
        edge(24, "`value`: 0 to COLORS - 1, or 1 to RANKS", MindEdges::tellsByValues);
        edge(24, "Returns of how many cards of a hand (of any player", MindEdges::tellsOfHands);
        edge(24, "if there is no such player", () -> needsPlayer((team, player) -> team.tells(player, 1, 1)));
        edge(24, "if word or value is out of range", () -> needsWord((t, w, v) -> t.tells(1, w, v)));
    }

    private static void advice() {
        edge(0, "(1) to pass, if the player has no cards and no hint as in (5) is there;", MindEdges::neverToPass);
        edge(0, "(2) to play the card at the smallest place of which the player knows that it can be played;",
                MindEdges::toPlay);
        edge(0, "(3) if there are tokens", MindEdges::noHintWithoutTokens);
        edge(0, "of all hints that can be given", MindEdges::onlyHintsThatCanBeGiven);
        edge(0, "by which tells() is greatest", MindEdges::greatestHint);
        edge(0, "and at least 1", MindEdges::hintsThatTellNothing);
        edge(0, "by players, from the one whose turn comes next on, round by round", MindEdges::hintsRoundByRound);
        edge(0, "then colors before ranks", MindEdges::hintsByWords);
        edge(0, "then by values;", MindEdges::hintsByValues);
        edge(0, "(4) to discard the card at the smallest place of which the player knows that it is useless;",
                MindEdges::toDiscardUseless);
        edge(0, "or else the one at the smallest place that no hint has touched;", MindEdges::toDiscardUntouched);
        edge(0, "(5) the first hint that can be given, in the order of (3), if there are tokens;",
                MindEdges::firstHint);
        edge(0, "(6) to discard the card at place 0.", MindEdges::toDiscardFirst);
    }

    private static void promisesOfAdvice() {
        edge(29, "`what`: 0 the kind: 0 to play, 1 to discard, 2 to hint, 3 to pass;", MindEdges::partsOfAdvice);
        edge(29, "1 the place of the card, or the player who gets the hint;", MindEdges::partsOfAdvice);
        edge(29, "(NONE for what the kind does not have)", MindEdges::partsOfAdvice);
        edge(29, "OVER if the game is over.", MindEdges::adviceWhenOver);
        edge(29, "if what is out of range", () -> range(of(PLAIN), 0, 3, ARGUMENT, HintTeam::advice));
        edge(30, "Takes turns as advised", MindEdges::followsAdvice);
        edge(30, "until so many are taken", MindEdges::followsSoMany);
        edge(30, "or the game is over", MindEdges::followsToTheEnd);
        edge(30, "(all of them are taken back one by one).", MindEdges::followedOneByOne);
        edge(30, "`turns`: 1 to 100", MindEdges::followRange);
        edge(30, "Returns how many turns were taken.", MindEdges::followsToTheEnd);
        edge(30, "if turns is out of range", MindEdges::followRange);
        edge(31, "until the game is over, or 300 were taken.", MindEdges::foreseenToTheEnd);
    }

    private static void thinks(String what, HintTeam team, int player, int place, int... kinds) {
        due(what + ", number", team.thinks(player, place), kinds.length);
        for (int index = 0; index < kinds.length; index++) {
            due(what + ", kind " + index, team.thought(player, place, index), kinds[index]);
        }
        due(what + ", no kind more", team.thought(player, place, kinds.length), NONE);
    }

    private static void leftByHints() {
        HintTeam team = of("game 2 3 2 2;deck a1 b2 a1 b2 a3 b3 a2 b1 a1 b2 a3 b3;tokens 9 9");
        thinks("no hint", team, 1, 0, 1, 2, 3, 11, 12, 13);
        team.hint(1, 0, 0);
        thinks("a color", team, 1, 0, 1, 2, 3);
        thinks("not this color", team, 1, 1, 11, 12, 13);
        team.hint(0, 1, 2);
        thinks("a rank", team, 0, 1, 2, 12);
        thinks("not this rank", team, 0, 0, 1, 3, 11, 13);
        team.hint(1, 1, 2);
        thinks("a color, not this rank", team, 1, 0, 1, 3);
        team.hint(0, 0, 1);
        thinks("a color and a rank", team, 0, 1, 12);
    }

    private static void inTheHeap() {
        // Of a1 there are two, of a2 four.
        HintTeam team = of("game 1 2 2 1;deck a1 a2 a1 a2 a2 a2");
        thinks("player 1 sees one a1 of two", team, 1, 0, 1, 2);
        team.discard(0);
        thinks("player 1 sees one a1 in the heap and one in a hand", team, 1, 0, 2);
        thinks("player 0 sees one a1 in the heap", team, 0, 0, 1, 2);
        team.discard(0);
        team.discard(0);
        thinks("both a1 are in the heap", team, 0, 0, 2);
        thinks("both a1 are in the heap", team, 1, 0, 2);
    }

    private static void onPiles() {
        HintTeam one = of("game 1 2 2 1;deck a1 a2 a2 a2");
        one.play(0);
        thinks("the only a1 is on the pile", one, 0, 0, 2);
        thinks("the only a1 is on the pile", one, 1, 0, 2);
        HintTeam two = of("game 1 2 2 1;deck a1 a2 a2 a2 a1");
        two.play(0);
        thinks("one a1 of two is on the pile", two, 0, 0, 1, 2);
        two.discard(0);
        two.discard(0);
        thinks("one a1 is on the pile, one in the own hand", two, 0, 0, 1);
        thinks("one a1 is on the pile, one in the other hand", two, 1, 0, 2);
    }

    private static void inOtherHands() {
        HintTeam team = of("game 1 3 3 1;deck a2 a1 a1 a3 a2");
        thinks("both a1 are in two other hands", team, 0, 0, 2, 3);
        thinks("one a1 is in the own hand", team, 1, 0, 1, 2, 3);
        thinks("one a1 is in the own hand", team, 2, 0, 1, 2, 3);
        HintTeam own = of("game 2 2 2 2;deck a1 a1 b2 b2");
        thinks("both are in the own hand", own, 0, 0, 1);
        thinks("both are in the own hand", own, 1, 1, 12);
        HintTeam none = of("game 4 5 2 1;deck a1 a1 a1");
        thinks("kinds without cards", none, 0, 0, 1);
        HintTeam last = of("game 4 5 4 1;deck a1 a1 d5 d5 d5");
        thinks("the last kind", last, 3, 0, 35);
        HintTeam four = of("game 4 1 4 1;deck a1 b1 c1 d1");
        for (int player = 0; player < 4; player++) {
            thinks("all others are in the other hands", four, player, 0, 10 * player + 1);
        }
        HintTeam five = of("game 4 5 2 5;deck a1 a2 a3 a4 a5 b1 b2 b3 b4 b5");
        thinks("hands of five cards", five, 0, 4, 1, 2, 3, 4, 5);
        thinks("hands of five cards", five, 1, 4, 11, 12, 13, 14, 15);
    }

    private static void pileCards() {
        HintTeam team = of("game 1 3 2 2;deck a1 a3 a2 a3 a1 a2 a3 a3");
        team.play(0);
        team.play(0);
        due("top", team.pile(0), 2);
        thinks("a2 is on the pile and in the other hand", team, 0, 0, 1, 3);
        thinks("a1 is on the pile and in the other hand", team, 1, 0, 2, 3);
        HintTeam three = of("game 1 3 2 1;deck a1 a1 a1 a2 a2 a2 a2");
        three.play(0);
        three.discard(0);
        thinks("one a1 on the pile, one in the heap, one in the other hand", three, 1, 0, 2);
        thinks("one a1 on the pile, one in the heap, one in the own hand", three, 0, 0, 1, 2);
        three.discard(0);
        thinks("one a1 on the pile, two in the heap", three, 1, 0, 2);
        allPilesGrow();
    }

    /** Each kind has one card; two players play them one by one, so that each sees the card behind the own one. */
    private static void allPilesGrow() {
        HintTeam team = of("game 4 5 2 1;deck a1 a2 a3 a4 a5 b1 b2 b3 b4 b5 c1 c2 c3 c4 c5 d1 d2 d3 d4 d5");
        for (int played = 0; played < 20; played++) {
            int[] kinds = new int[Math.max(1, 19 - played)];
            kinds[0] = codeOf(played);
            for (int k = 1; k < kinds.length; k++) {
                kinds[k] = codeOf(played + 1 + k);
            }
            thinks(played + " cards on piles", team, team.turnOf(), 0, kinds);
            uselessUpTo(played, team);
            due("score", team.play(0), played + 1);
        }
        due("over", team.over(), 2);
    }

    private static void uselessUpTo(int played, HintTeam team) {
        for (int kind = 0; kind < 20; kind++) {
            due(played + " on piles, " + codeOf(kind), team.isUseless(kind / 5, kind % 5 + 1), kind < played);
        }
    }

    private static int codeOf(int kind) {
        return 10 * (kind / 5) + kind % 5 + 1;
    }

    private static void playableKinds() {
        HintTeam team = of("game 2 2 2 2;deck a1 b1 a2 a2 b1 a1 b2 b2;tokens 9 9");
        team.hint(1, 1, 2);
        due("2 on an empty pile", team.knows(1, 0), 0);
        team.hint(0, 1, 1);
        due("1 on an empty pile", team.knows(0, 0), 1);
        team.play(0);
        due("a2 on a1, b2 on nothing", team.knows(1, 0), 0);
        team.hint(0, 0, 1);
        team.hint(1, 0, 0);
        due("a2 on a1", team.knows(1, 0), 1);
    }

    private static void useless(String what, HintTeam team, int color, int... ranks) {
        for (int rank = 1; rank <= team.count(1); rank++) {
            boolean isUseless = false;
            for (int one : ranks) {
                isUseless |= one == rank;
            }
            due(what + ", rank " + rank, team.isUseless(color, rank), isUseless);
        }
    }

    private static void uselessOnPile() {
        HintTeam team = of("game 2 3 2 1;deck a1 a2 a3 b1 b2 b3 a1 a2 b1");
        useless("nothing on the pile", team, 0);
        team.play(0);
        useless("1 on the pile", team, 0, 1);
        useless("another pile", team, 1);
        team.play(0);
        useless("2 on the pile", team, 0, 1, 2);
        team.play(0);
        useless("3 on the pile", team, 0, 1, 2, 3);
        useless("another pile", team, 1);
    }

    private static void uselessAboveLost() {
        HintTeam team = of("game 2 4 2 1;deck a1 a2 a2 a3 a4 b1 b2 b3 b4 a1 b1");
        team.discard(0);
        useless("one a1 of two is lost", team, 0);
        team.discard(0);
        useless("one a2 of two is lost", team, 0);
        team.discard(0);
        useless("both a2 are lost", team, 0, 2, 3, 4);
        useless("another color", team, 1);
        // Of a1, which is on the pile, no card is left but that one.
        HintTeam below = of("game 1 3 2 1;deck a1 a1 a2 a3 a2 a3");
        below.play(0);
        below.discard(0);
        due("the other a1 is in the heap", below.copies(0, 1, 1), 1);
        useless("a lower rank that is on the pile", below, 0, 1);
    }

    private static void uselessWhenLost() {
        HintTeam team = of("game 1 3 2 1;deck a3 a3 a1 a2 a1");
        team.discard(0);
        useless("one a3 of two", team, 0);
        team.play(0);
        useless("both a3", team, 0, 3);
        HintTeam first = of("game 1 3 2 1;deck a1 a3 a2 a2 a3");
        first.discard(0);
        useless("the only a1", first, 0, 1, 2, 3);
    }

    private static void uselessWithoutCards() {
        useless("no a1", of("game 2 3 2 1;deck a2 a3 b1"), 0, 1, 2, 3);
        useless("no a2", of("game 2 3 2 1;deck a1 a3 b1"), 0, 2, 3);
        useless("no a3", of("game 2 3 2 1;deck a1 a2 b1"), 0, 3);
        useless("no b", of("game 2 3 2 1;deck a1 a2 a3"), 1, 1, 2, 3);
        useless("no d", of("game 4 5 2 1;deck a1 a2 a3"), 3, 1, 2, 3, 4, 5);
    }

    private static void knownOfAllKinds() {
        HintTeam team = of("game 2 2 2 2;deck a1 b1 a1 b1 a1 b1 a2 b2");
        due("nothing", team.knows(1, 0), 0);
        team.hint(1, 1, 1);
        due("a1 and b1 can be played", team.knows(1, 0), 1);
        team.play(0);
        due("a1 is useless, b1 can be played", team.knows(1, 0), 0);
        team.play(1);
        due("a1 and b1 are useless", team.knows(1, 0), 2);
        due("a card of which nothing was told", team.knows(1, 1), 0);
        uselessOfEachColor();
        HintTeam other = of("game 2 2 2 2;deck b1 a1 b1 a1 b1 a1 b2 a2");
        other.hint(1, 1, 1);
        other.play(0);
        due("b1 is useless, a1 can be played", other.knows(1, 0), 0);
        HintTeam lost = of("game 1 3 2 1;deck a2 a3 a1 a1 a1;tokens 9 9");
        lost.hint(1, 1, 3);
        due("a3 cannot be played yet", lost.knows(1, 0), 0);
        lost.hint(0, 0, 0);
        lost.discard(0);
        due("a3 without a2", lost.knows(1, 0), 2);
    }

    private static void critical() {
        HintTeam team = of("game 2 3 2 1;deck a1 a2 a1 a2 a1 a3 a3 b2 b1 b1");
        due("a1, none of three is lost", team.isCritical(0, 1), false);
        due("b2, one of one", team.isCritical(1, 2), true);
        due("b3, none of none, useless", team.isCritical(1, 3), false);
        team.discard(0);
        due("a1, one of three is lost", team.isCritical(0, 1), false);
        team.discard(0);
        due("a2, one of two is lost", team.isCritical(0, 2), true);
        team.discard(0);
        due("a1, two of three are lost", team.isCritical(0, 1), true);
        team.discard(0);
        due("a2, both are lost", team.isCritical(0, 2), false);
        team.play(0);
        due("a1, on the pile", team.isCritical(0, 1), false);
        team.discard(0);
        due("a3, one of two is lost, but useless", team.isCritical(0, 3), false);
    }

    /** A card is played; then it is told of the color of another one like it. */
    private static void uselessOfEachColor() {
        for (char color = 'a'; color <= 'd'; color++) {
            String card = " " + color + "1";
            HintTeam team = of("game 4 1 2 1;deck" + card + card + " a1 b1 c1 d1");
            team.play(0);
            team.hint(0, 1, 1);
            due("nothing was told", team.knows(1, 0), 0);
            team.hint(1, 0, color - 'a');
            due("useless by color " + color, team.knows(1, 0), 2);
        }
    }

    private static void thoughtsInOrder() {
        HintTeam team = of("game 4 5 2 1;deck b3 a1 d5 c2 a5 a4 d1");
        // Player 0 sees a1.
        thinks("by colors, then by ranks", team, 0, 0, 4, 5, 13, 22, 31, 35);
        // Player 1 sees b3.
        thinks("by colors, then by ranks", team, 1, 0, 1, 4, 5, 22, 31, 35);
    }

    private static void noSuchThought() {
        HintTeam team = of("game 4 5 2 1;deck b3 a1 d5 c2 a5 a4 d1");
        for (int index : new int[] {-1, 6, 7, 20, Integer.MAX_VALUE, Integer.MIN_VALUE}) {
            due("index " + index, team.thought(0, 0, index), NONE);
        }
        due("the last one", team.thought(0, 0, 5), 35);
    }

    private static void thoughtsOfNoCard() {
        needsCard((team, player, place) -> team.thought(player, place, 0));
        needsCard((team, player, place) -> team.thought(player, place, -1));
    }

    /** A card is possible for who has it, so there is none without a possible kind. */
    private static void someKindIsPossible() {
        HintTeam team = of("game 4 5 3 2;deck" + MANY.repeat(3));
        for (int k = 0; k < 12; k++) {
            for (int player = 0; player < 3; player++) {
                for (int place = 0; place < team.hand(player); place++) {
                    due("kinds are possible", team.thinks(player, place) > 0, true);
                }
            }
            team.follow(2);
        }
    }

    private static void tellsAnyPlayer() {
        HintTeam team = of("game 2 3 2 2;deck a1 b1 a2 b2 a3 b3 a1 b1;tokens 3 0;rank 1 0");
        due("the own hand, without tokens, without words", team.tells(0, 1, 1), 2);
        due("a hint that touches nothing", team.tells(0, 1, 3), 2);
        due("the other hand", team.tells(1, 1, 2), 0);
        HintTeam own = of("game 1 2 2 1;deck a1 a2 a2 a1 a2");
        own.play(0);
        due("a2 of player 1, whose turn it is", own.tells(1, 1, 2), 1);
        HintTeam over = of("game 1 2 2 1;deck a1 a2 a1 a2 a2;lives 1");
        over.discard(0);
        over.play(0);
        due("over", over.over(), 1);
        due("when the game is over", over.tells(0, 1, 1), 1);
    }

    private static void tellsNews() {
        HintTeam team = of(PLAIN);
        due("both are 1", team.tells(0, 1, 1), 2);
        team.hint(1, 1, 2);
        team.hint(0, 1, 1);
        due("known already", team.tells(0, 1, 1), 0);
        due("known already", team.tells(0, 0, 0), 0);
        team.play(0);
        due("a1 is played, b1 by its color", team.tells(0, 0, 1), 1);
        due("b1, as it is not color 0", team.tells(0, 0, 0), 1);
        due("b1, of which the rank is known", team.tells(0, 1, 1), 0);
        HintTeam sole = of("game 1 1 2 1;deck a1 a1");
        due("known without a hint", sole.knows(0, 0), 1);
        due("known without a hint", sole.tells(0, 0, 0), 0);
    }

    private static void tellsOfHands() {
        for (int cards = 1; cards <= 5; cards++) {
            HintTeam team = of("game 1 2 2 " + cards + ";deck" + " a1".repeat(2 * cards) + " a2 a2");
            due("all of " + cards + " cards", team.tells(0, 1, 1), cards);
            due("all of " + cards + " cards", team.tells(1, 1, 1), cards);
            due("none of " + cards + " cards", team.tells(1, 0, 0), 0);
        }
        HintTeam last = of("game 1 2 2 5;deck a2 a2 a2 a2 a2 a2 a2 a2 a2 a1 a1");
        due("the card at place 4", last.tells(1, 1, 1), 1);
    }

    private static void tellsByValues() {
        // Player 1 has d1 and thinks a1, a2 and d1 possible: a color leaves d1 alone if it is a or d.
        HintTeam colors = of("game 4 2 2 1;deck a2 d1 a2 d1 a1");
        int[] due = {1, 0, 0, 1};
        for (int color = 0; color < 4; color++) {
            due("color " + color, colors.tells(1, 0, color), due[color]);
        }
        // Player 1 has a1 and thinks all ranks possible.
        HintTeam ranks = of("game 1 5 2 1;deck a5 a1 a2 a3 a4 a5");
        for (int rank = 1; rank <= 5; rank++) {
            due("rank " + rank, ranks.tells(1, 1, rank), rank == 1 ? 1 : 0);
        }
        // Behind a1 player 1, who has a2, thinks a2 and a3 possible.
        HintTeam next = of("game 1 3 2 1;deck a1 a2 a3 a3");
        next.play(0);
        for (int rank = 1; rank <= 3; rank++) {
            due("rank " + rank, next.tells(1, 1, rank), rank == 1 ? 0 : 1);
        }
    }

    private static void advised(String what, HintTeam team, int kind, int target, int word, int value) {
        int[] want = {kind, target, word, value};
        for (int k = 0; k < 4; k++) {
            due(what + ", advice(" + k + ")", team.advice(k), want[k]);
        }
    }

    /** Whose turn it is always has cards, as the last round has one turn for each player. */
    private static void neverToPass() {
        for (int players = 2; players <= 4; players++) {
            HintTeam team = of("game 4 5 " + players + " 1;deck" + MANY.repeat(2) + ";tokens 2 0");
            for (int k = 0; k < 40 && team.over() == 0; k++) {
                due("cards", team.hand(team.turnOf()) > 0, true);
                due("to pass", team.advice(0) == 3, false);
                team.follow(1);
            }
            due("over", team.over() != 0, true);
        }
    }

    private static void toPlay() {
        HintTeam team = of("game 2 2 2 3;deck b2 a1 b1 a2 a2 b2 a1 b1 a1");
        team.hint(1, 1, 2);
        team.hint(0, 1, 1);
        advised("place 1 before place 2", team, 0, 1, NONE, NONE);
        HintTeam first = of("game 2 2 2 3;deck a1 b1 b2 a2 a2 b2 a1 b1 a1");
        first.hint(1, 1, 2);
        first.hint(0, 1, 1);
        advised("place 0 before place 1", first, 0, 0, NONE, NONE);
        HintTeam last = of("game 2 2 2 3;deck b2 a2 b1 a2 a2 b2 a1 b1 a1");
        last.hint(1, 1, 2);
        last.hint(0, 1, 1);
        advised("place 2", last, 0, 2, NONE, NONE);
        HintTeam hint = of("game 2 2 2 1;deck a1 b1 a1 b1 a2 b2");
        hint.hint(1, 1, 1);
        due("a hint would tell something", hint.tells(0, 1, 1), 1);
        advised("before a hint", hint, 0, 0, NONE, NONE);
    }

    private static void noHintWithoutTokens() {
        String game = "game 2 2 2 1;deck a1 b1 a1 b1 a2 b2;tokens 9 ";
        due("a hint would tell something", of(game + "0").tells(1, 1, 1), 1);
        advised("no token", of(game + "0"), 1, 0, NONE, NONE);
        advised("one token", of(game + "1"), 2, 1, 1, 1);
    }

    private static void onlyHintsThatCanBeGiven() {
        HintTeam nothing = of(PLAIN + ";rank 1 0");
        nothing.hint(1, 1, 2);
        due("rank 3 would tell most, but touches no card", nothing.tells(0, 1, 3), 2);
        advised("the first hint that can be given", nothing, 2, 0, 0, 0);
        String game = "game 2 2 2 1;deck a1 b1 a1 b1 a2 b2";
        advised("a word that is left", of(game + ";rank 1 1"), 2, 1, 1, 1);
        advised("no word that is left", of(game + ";rank 1 0"), 1, 0, NONE, NONE);
    }

    private static void greatestHint() {
        String game = "game 2 2 3 2;deck b2 b2 a1 a2 a1 b1 a2 b2 a1 b1;tokens 5 5";
        due("player 1", of(game).tells(1, 1, 1), 1);
        due("player 2", of(game).tells(2, 1, 1), 2);
        advised("2 cards rather than 1", of(game), 2, 2, 1, 1);
        advised("1 card, if 2 cannot be told", of(game + ";rank 1 0"), 2, 1, 1, 2);
    }

    private static void hintsThatTellNothing() {
        HintTeam team = of(PLAIN);
        for (int color = 0; color < 2; color++) {
            due("color " + color, team.tells(1, 0, color), 0);
        }
        due("rank 2", team.tells(1, 1, 2), 0);
        advised("no hint that tells something", team, 1, 0, NONE, NONE);
    }

    private static void hintsRoundByRound() {
        HintTeam team = of("game 2 2 3 1;deck a1 a1 a1 a1 a1 a1 a2 a2 b1 b2");
        advised("player 1 before player 2", team, 2, 1, 1, 1);
        team.discard(0);
        due("player 0", team.tells(0, 1, 1), 1);
        advised("player 2 before player 0", team, 2, 2, 1, 1);
        team.discard(0);
        due("player 1", team.tells(1, 1, 1), 1);
        advised("player 0 before player 1", team, 2, 0, 1, 1);
        HintTeam four = of("game 2 2 4 1;deck a1 a1 a1 a1 a1 a1 a1 a2 a2 b1 b2");
        four.discard(0);
        four.discard(0);
        advised("player 3 before players 0 and 1", four, 2, 3, 1, 1);
        four.undo();
        four.undo();
        four.hint(3, 1, 1);
        four.hint(2, 1, 1);
        advised("player 2 plays", four, 0, 0, NONE, NONE);
        HintTeam around = of("game 2 2 3 1;deck a1 a1 b2 a1 a1 a1 a2 a2 b1 b2 b2");
        around.discard(0);
        advised("player 0, as player 2 has nothing to be told", around, 2, 0, 1, 1);
    }

    private static void hintsByWords() {
        HintTeam team = of("game 2 2 3 1;deck b2 a1 b1 b2 a1 b1;tokens 5 5");
        due("color 0", team.tells(1, 0, 0), 1);
        due("rank 1", team.tells(1, 1, 1), 1);
        advised("color 0 before rank 1", team, 2, 1, 0, 0);
        HintTeam last = of("game 4 2 2 1;deck a2 d1 a2 d1 a1");
        due("color 3", last.tells(1, 0, 3), 1);
        due("rank 1", last.tells(1, 1, 1), 1);
        advised("color 3 before rank 1", last, 2, 1, 0, 3);
    }

    private static void hintsByValues() {
        String game = "game 3 2 2 2;deck c2 c2 a1 b1 c2 a1 b1;rank 1 0";
        due("color 0", of(game).tells(1, 0, 0), 1);
        due("color 1", of(game).tells(1, 0, 1), 1);
        advised("color 0 before color 1", of(game), 2, 1, 0, 0);
        advised("color 1, without color 0", of(game + ";color 0 0"), 2, 1, 0, 1);
        String ranks = "game 2 2 2 2;deck b2 b2 a1 b2 a2 a1 b1 b1;tokens 5 5";
        due("rank 1", of(ranks).tells(1, 1, 1), 1);
        due("rank 2", of(ranks).tells(1, 1, 2), 1);
        advised("rank 1 before rank 2", of(ranks), 2, 1, 1, 1);
        advised("rank 2, without rank 1", of(ranks + ";rank 1 0"), 2, 1, 1, 2);
    }

    private static void toDiscardUseless() {
        HintTeam team = of("game 1 3 2 4;deck a3 a1 a1 a1 a3 a3 a3 a3 a3 a3 a2 a2 a3");
        team.hint(1, 1, 3);
        team.hint(0, 1, 1);
        team.play(1);
        team.discard(0);
        due("place 0 was not touched", team.isTouched(0, 0), false);
        due("place 1 is useless", team.knows(0, 1), 2);
        due("place 2 is useless", team.knows(0, 2), 2);
        advised("place 1 before place 2", team, 1, 1, NONE, NONE);
    }

    private static void toDiscardUntouched() {
        HintTeam team = of("game 2 3 2 3;deck a3 b2 b3 b3 b3 b3 a1 b1 a2 a1 b1");
        advised("place 0, as none was touched", team, 1, 0, NONE, NONE);
        team.hint(1, 1, 3);
        team.hint(0, 0, 0);
        advised("place 1 before place 2", team, 1, 1, NONE, NONE);
        team.hint(1, 0, 1);
        team.hint(0, 1, 2);
        advised("place 2", team, 1, 2, NONE, NONE);
    }

    private static HintTeam touchedHands(String more) {
        HintTeam team = of("game 2 3 2 1;deck a3 b3 a1 b1 a2 b2" + more);
        team.hint(1, 1, 3);
        team.hint(0, 1, 3);
        return team;
    }

    private static void firstHint() {
        advised("color 0 touches nothing", touchedHands(";tokens 3 3"), 2, 1, 0, 1);
        advised("color 1 is used up", touchedHands(";tokens 3 3;color 1 0"), 2, 1, 1, 3);
        advised("no tokens", touchedHands(";tokens 3 2"), 1, 0, NONE, NONE);
        HintTeam team = of("game 2 3 3 1;deck a3 b3 b3 a1 b1 a2 b2");
        team.hint(1, 1, 3);
        team.hint(0, 1, 3);
        advised("its own card was not touched", team, 1, 0, NONE, NONE);
        team.hint(1, 1, 3);
        advised("player 1 before player 2", team, 2, 1, 0, 1);
        team.hint(2, 1, 3);
        advised("player 2 before player 0", team, 2, 2, 0, 1);
        team.hint(0, 1, 3);
        advised("player 0 before player 1", team, 2, 0, 0, 0);
    }

    private static void toDiscardFirst() {
        advised("no tokens", touchedHands(";tokens 2 2"), 1, 0, NONE, NONE);
        advised("no words", touchedHands(";rank 3 2;color 0 0;color 1 0"), 1, 0, NONE, NONE);
        HintTeam team = of("game 1 3 2 2;deck a3 a3 a3 a3 a1 a2;tokens 2 2");
        team.hint(1, 1, 3);
        team.hint(0, 1, 3);
        advised("place 0 of two", team, 1, 0, NONE, NONE);
        HintTeam useless = of("game 2 3 2 1;deck b3 b3 a3 b1 b2;tokens 2 2");
        useless.hint(1, 1, 3);
        useless.hint(0, 1, 3);
        advised("a card that may be of a useless color", useless, 1, 0, NONE, NONE);
    }

    private static void partsOfAdvice() {
        HintTeam team = of(PLAIN);
        advised("to discard", team, 1, 0, NONE, NONE);
        team.hint(1, 1, 2);
        advised("to hint", team, 2, 0, 1, 1);
        team.hint(0, 1, 1);
        advised("to play", team, 0, 0, NONE, NONE);
    }

    private static void adviceWhenOver() {
        HintTeam lives = of("game 2 2 2 1;deck a2 a2 a2;lives 1");
        lives.play(0);
        for (HintTeam team : new HintTeam[] {new HintTeam(), lives}) {
            for (int what = 0; what <= 3; what++) {
                due("advice(" + what + ")", team.advice(what), OVER);
            }
            fails("advice(4)", ARGUMENT, () -> team.advice(4));
            fails("advice(-1)", ARGUMENT, () -> team.advice(-1));
        }
    }

    /** A turn that is followed is the one that is advised, in all that can be asked of it. */
    private static void followsAdvice() {
        String colors = "game 4 2 2 1;deck a2 d1 a2 d1 a1";
        follows("color 3", of(colors), of(colors), team -> team.hint(1, 0, 3));
        String ranks = "game 2 2 2 2;deck b2 b2 a1 b2 a2 a1 b1 b1;rank 1 0";
        follows("rank 2", of(ranks), of(ranks), team -> team.hint(1, 1, 2));
        String fourth = "game 2 2 4 1;deck b2 b2 b2 a1 a1 a1 a2 b1";
        follows("rank 1 to player 3", of(fourth), of(fourth), team -> team.hint(3, 1, 1));
        String untouched = "game 2 3 2 3;deck a3 b2 b3 b3 b3 b3 a1 b1 a2 a1 b1";
        follows("to discard place 2", touchedTwice(untouched), touchedTwice(untouched), team -> team.discard(2));
        follows("to discard place 0", of(untouched), of(untouched), team -> team.discard(0));
        String last = "game 2 2 2 3;deck b2 a2 b1 a2 a2 b2 a1 b1 a1";
        follows("to play place 2", toldOfOnes(last), toldOfOnes(last), team -> team.play(2));
    }

    /** Player 0 was told of a3 and b2, but not of b3. */
    private static HintTeam touchedTwice(String text) {
        HintTeam team = of(text);
        team.hint(1, 1, 3);
        team.hint(0, 0, 0);
        team.hint(1, 0, 1);
        team.hint(0, 1, 2);
        return team;
    }

    private static HintTeam toldOfOnes(String text) {
        HintTeam team = of(text);
        team.hint(1, 1, 2);
        team.hint(0, 1, 1);
        return team;
    }

    private static void follows(String what, HintTeam team, HintTeam other, Consumer<HintTeam> turn) {
        due("turns", team.follow(1), 1);
        turn.accept(other);
        due(what, seenGame(team), seenGame(other));
        for (int part = 0; part < 4; part++) {
            due(what + ", part " + part, team.logPart(0, part), other.logPart(0, part));
        }
    }

    private static void followsSoMany() {
        HintTeam team = of("game 4 5 2 3;deck" + MANY.repeat(5));
        HintTeam single = of("game 4 5 2 3;deck" + MANY.repeat(5));
        due("1 of 1", team.follow(1), 1);
        due("7 of 7", team.follow(7), 7);
        due("turns", team.count(8), 8);
        for (int k = 0; k < 8; k++) {
            single.follow(1);
        }
        due("one by one", seenGame(single), seenGame(team));
    }

    private static void followsToTheEnd() {
        HintTeam team = of("game 1 3 2 1;deck a3 a1 a2 a1 a1");
        // Rank 1 to player 1, a1, rank 2 to player 1, a2, then a3 and an a1 of each player are discarded.
        due("8 of 8 turns would be too many", team.follow(8), 7);
        due("over", team.over(), 3);
        due("none", team.follow(1), 0);
        due("none", team.follow(100), 0);
        team.undo();
        due("the last one", team.follow(100), 1);
        due("a new object", new HintTeam().follow(1), 0);
    }

    private static void followedOneByOne() {
        HintTeam team = of("game 1 3 2 1;deck a3 a1 a2 a1 a1");
        HintTeam single = of("game 1 3 2 1;deck a3 a1 a2 a1 a1");
        single.follow(1);
        single.follow(1);
        team.follow(7);
        for (int left = 6; left >= 2; left--) {
            due("undo", team.undo(), left);
        }
        due("as after two turns", seenGame(team), seenGame(single));
        HintTeam many = of("game 4 5 2 3;deck" + MANY.repeat(5));
        int taken = many.follow(100);
        due("more than 20", taken > 20, true);
        due("20 of them", many.count(10), 20);
        many.undo();
        due("one less", many.count(8), taken - 1);
    }

    private static void followRange() {
        HintTeam team = of(PLAIN);
        for (int turns : new int[] {0, -1, 101, Integer.MIN_VALUE, Integer.MAX_VALUE}) {
            fails("follow(" + turns + ")", ARGUMENT, () -> team.follow(turns));
            fails("follow(" + turns + ") when it is over", ARGUMENT, () -> new HintTeam().follow(turns));
        }
        keeps("follow(0)", team, () -> team.follow(0));
        due("follow(1)", team.follow(1), 1);
        due("follow(100)", team.follow(100) > 1, true);
    }

    private static void foreseenToTheEnd() {
        for (int players = 2; players <= 4; players++) {
            HintTeam team = of("game 4 5 " + players + " 2;deck" + MANY.repeat(5) + ";tokens 9 9");
            int foreseen = team.foreseen();
            keeps("foreseen", team, team::foreseen);
            team.follow(100);
            due("over", team.over() != 0, true);
            due("foreseen", foreseen, team.count(7));
            due("when it is over", team.foreseen(), team.count(7));
        }
        due("a new object", new HintTeam().foreseen(), 0);
    }
}
