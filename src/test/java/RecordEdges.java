/** The edges of section 6, of the constants and of promises 38 to 44: what is kept, taken back and written. */
final class RecordEdges extends Edges {
    private static final int NONE = HintTeam.NONE;
    private static final int NO_VALUE = HintTeam.NO_VALUE;
    private static final String MANY = " a1 b2 c3 d4";

    static void run() {
        turnsAndErrors();
        constants();
        totals();
        logs();
        undos();
        outputs();
        snapshots();
    }

    private static void turnsAndErrors() {
        edge(0, "Turns can be taken back.", RecordEdges::eachKindOfTurn);
        edge(0, "A method that returns an error or throws an exception changes nothing, except as load() says.",
                RecordEdges::refusals);
        edge(0, "If several exceptions apply, the one that is named first is thrown;", RecordEdges::firstExceptions);
        edge(0, "exceptions come before errors", RecordEdges::exceptionsBeforeErrors);
        edge(0, "and of several errors the one that is named first is returned.", RecordEdges::firstErrors);
        edge(0, "Predictions change nothing.", RecordEdges::predictions);
    }

    private static void constants() {
        constant("`NONE = -1`", HintTeam.NONE, -1);
        constant("`FULL = -2`", HintTeam.FULL, -2);
        constant("`OVER = -3`", HintTeam.OVER, -3);
        constant("`NO_TOKEN = -4`", HintTeam.NO_TOKEN, -4);
        constant("`NO_WORD = -5`", HintTeam.NO_WORD, -5);
        constant("`HAS_CARDS = -6`", HintTeam.HAS_CARDS, -6);
        constant("`NOT_SENSIBLE = -7`", HintTeam.NOT_SENSIBLE, -7);
        constant("`UNKNOWN = -8`", HintTeam.UNKNOWN, -8);
        constant("`NO_VALUE = -1000`", HintTeam.NO_VALUE, -1000);
    }

    private static void constant(String words, int got, int want) {
        edge(0, words, () -> due("it", got, want));
    }

    private static void totals() {
        edge(38, "Returns a total since the beginning.", RecordEdges::sinceTheBeginning);
        edge(38, "0 cards that were played onto piles, 1 lives that were lost", RecordEdges::playsAndLosses);
        edge(38, "2 cards that were discarded, 3 hints", RecordEdges::discardsAndHints);
        edge(38, "4 tokens that came back (none beyond MOST)", RecordEdges::tokensThatCameBack);
        edge(38, "5 cards that hints touched", RecordEdges::touchedCards);
        edge(38, "6 critical kinds of which a card was discarded or lost", RecordEdges::lostKinds);
        edge(38, "`what`: 0 cards", () -> range(of(PLAIN), 0, 6, ARGUMENT, HintTeam::total));
        edge(38, "if what is out of range", RecordEdges::noSuchTotals);
    }

    private static void logs() {
        edge(39, "Returns a number of a turn that was taken;", RecordEdges::loggedTurns);
        edge(39, "the latest 30 are kept", RecordEdges::latestThirty);
        edge(39, "(undo() brings back what there was).", RecordEdges::broughtBack);
        edge(39, "`index`: 0 for the latest one", RecordEdges::loggedTurns);
        edge(39, "1 the kind: 0 played onto a pile, 1 discarded, 2 a hint, 3 passed, 4 played and lost;",
                RecordEdges::loggedTurns);
        edge(39, "2 the card (10 * color + rank) or the player who got the hint (NONE for 3), 3 for a hint 10 * the "
                + "word + the value, NONE otherwise", RecordEdges::loggedCardsAndWords);
        edge(39, "NO_VALUE if there is no such turn.", RecordEdges::noSuchTurns);
        edge(39, "if what is out of range", RecordEdges::noSuchParts);
    }

    private static void undos() {
        edge(40, "Takes the latest turn back that was not taken back;", RecordEdges::latestTurns);
        edge(40, "the latest 20 can be.", RecordEdges::latestTwenty);
        edge(40, "Returns how many can be taken back then;", RecordEdges::numbersLeft);
        edge(40, "NONE, and nothing changes, if there is none.", RecordEdges::nothingToTakeBack);
    }

    private static void outputs() {
        edge(41, "in place of what it had", RecordEdges::replacedOutputs);
        edge(41, "for each card its letter (a for color 0) and its rank;", RecordEdges::seenCards);
        edge(41, "for one that is not seen a letter only if the hints leave one color, a rank only if they leave one "
                + "rank", RecordEdges::unseenCards);
        edge(41, "a rank only if they leave one rank, \"?\" in place of each other one;", RecordEdges::unseenCards);
        edge(41, "with a space between two cards.", RecordEdges::spacesBetweenCards);
        edge(41, "`seen`: whether the cards are seen", RecordEdges::unseenCards);
        edge(41, "Returns the length of the output.", RecordEdges::spacesBetweenCards);
        edge(41, "if there is no such player", RecordEdges::handsOfNobody);
        edge(42, "Returns a byte of the output.", RecordEdges::bytesOfOutput);
        edge(42, "`index`: the index, from 0", RecordEdges::bytesOfOutput);
        edge(42, "NONE if there is none.", RecordEdges::bytesBeyondOutput);
    }

    private static void snapshots() {
        edge(43, "Copies everything except", RecordEdges::everythingCopied);
        edge(43, "except the input buffer, the results of the latest load, the turns that can be taken back, the "
                + "output and the snapshots to a snapshot.", RecordEdges::notCopied);
        edge(43, "`slot`: 0 or 1", RecordEdges::twoSlots);
        edge(43, "Returns the score.", RecordEdges::scoresOfSnapshots);
        edge(43, "if slot is out of range", () -> range(of(PLAIN), 0, 1, ARGUMENT, HintTeam::saveSnapshot));
        edge(44, "Replaces everything by a copy of a snapshot, which stays;", RecordEdges::snapshotStays);
        edge(44, "nothing can be taken back then.", RecordEdges::nothingBackBehindRestore);
        edge(44, "`slot`: 0 or 1", RecordEdges::twoSlots);
        edge(44, "Returns the score;", RecordEdges::scoresOfSnapshots);
        edge(44, "NONE if nothing was saved there.", RecordEdges::nothingSaved);
        edge(44, "if slot is out of range", RecordEdges::noSuchSlots);
    }

    /** Makes a turn, and looks whether undo() leaves the game as it was. */
    private static void takenBack(String what, HintTeam team, int left, Call turn) {
        String before = seenGame(team);
        int turns = team.count(8);
        turn.make();
        due(what + " is a turn", team.count(8), turns + 1);
        due("undo of " + what, team.undo(), left);
        due("the game behind undo of " + what, seenGame(team), before);
    }

    private static void eachKindOfTurn() {
        HintTeam team = of(PLAIN);
        takenBack("a card onto a pile", team, 0, () -> team.play(1));
        HintTeam whole = of("game 2 1 2 1;deck a1 b1 a1 b1;tokens 2 1");
        takenBack("a whole pile", whole, 0, () -> whole.play(0));
        HintTeam lost = of("game 1 2 2 1;deck a2 a1 a2 a1;lives 1");
        takenBack("the last life", lost, 0, () -> lost.play(0));
        HintTeam last = of("game 1 2 2 1;deck a2 a1 a2;tokens 1 0");
        takenBack("the last card that is drawn", last, 0, () -> last.discard(0));
        last.discard(0);
        last.discard(0);
        takenBack("the last turn of all", last, 2, () -> last.discard(0));
        HintTeam hint = of("game 2 2 2 2;deck a1 b2 a1 b2 a1;rank 1 1;tokens 1 1");
        takenBack("a hint", hint, 0, () -> hint.hint(1, 1, 1));
        HintTeam followed = of(PLAIN);
        followed.play(1);
        takenBack("an advised turn", followed, 1, () -> followed.follow(1));
    }

    private static HintTeam started() {
        HintTeam team = of(PLAIN + ";color 0 0");
        team.play(0);
        team.hint(0, 1, 1);
        team.hint(1, 1, 2);
        team.writeHand(0, false);
        return team;
    }

    private static void refused(String what, OfNumber call) {
        HintTeam team = started();
        keeps(what, team, () -> call.ask(team, 0));
        due("undo behind " + what, team.undo(), 2);
    }

    private static void refusals() {
        refused("an argument", (team, none) -> team.count(11));
        refused("a place to play", (team, none) -> team.play(2));
        refused("a place to discard", (team, none) -> team.discard(-1));
        refused("a hint to nobody", (team, none) -> team.hint(2, 1, 1));
        refused("a hint to oneself", (team, none) -> team.hint(1, 1, 1));
        refused("a hint with no word", (team, none) -> team.hint(0, 2, 1));
        refused("no token", (team, none) -> team.hint(0, 1, 1));
        refused("a player with cards", (team, none) -> team.pass());
        refused("too many turns to follow", (team, none) -> team.follow(101));
        refused("no turn to follow", (team, none) -> team.follow(0));
        refused("no kind of a move", (team, none) -> team.valueBehind(4, 0));
        refused("no sensible move", (team, none) -> team.valueBehind(3, 0));
        refused("nobody's hand", (team, none) -> team.writeHand(2, true));
        refused("a third slot", (team, none) -> team.saveSnapshot(2));
        refused("no slot", (team, none) -> team.restoreSnapshot(-1));
        refused("an empty slot", (team, none) -> team.restoreSnapshot(0));
        HintTeam words = of(PLAIN + ";rank 2 0");
        keeps("no time of a word left", words, () -> words.hint(1, 1, 2));
        HintTeam over = of("game 1 1 2 1;deck a1 a1 a1");
        over.play(0);
        keeps("a turn when it is over", over, () -> over.play(0));
        due("undo behind it", over.undo(), 0);
        HintTeam full = new HintTeam();
        for (int k = 0; k < 74; k++) {
            full.append(0x2020202020202020L);
        }
        full.append(0x20202020202020L);
        due("a byte too many is refused", full.append(0x6161), HintTeam.FULL);
        due("none of two bytes was taken", full.append(0x61), 600);
    }

    private static void firstExceptions() {
        HintTeam team = of(PLAIN);
        fails("copies: no kind, no such number", INDEX, () -> team.copies(2, 1, 4));
        fails("copies: no rank, no such number", INDEX, () -> team.copies(0, 0, -1));
        fails("touches: no player, no word", INDEX, () -> team.touches(2, 2, 0));
        fails("touches: no player, no value", INDEX, () -> team.touches(-1, 0, 2));
        fails("tells: no player, no word", INDEX, () -> team.tells(2, -1, 0));
        fails("tells: no player, no value", INDEX, () -> team.tells(-1, 1, 0));
        fails("hint: no player, no word", INDEX, () -> team.hint(2, 2, 0));
        fails("hint: to oneself, no value", INDEX, () -> team.hint(0, 1, 4));
        fails("hint of a new object", INDEX, () -> new HintTeam().hint(0, 2, 0));
    }

    private static void exceptionsBeforeErrors() {
        HintTeam over = of("game 1 1 2 1;deck a1 a1 a1;tokens 1 0");
        over.play(0);
        fails("hint: no player, over", INDEX, () -> over.hint(2, 0, 0));
        fails("hint: no word, over", ARGUMENT, () -> over.hint(0, 0, 1));
        fails("advice: no part, over", ARGUMENT, () -> over.advice(4));
        fails("follow: no turns, over", ARGUMENT, () -> over.follow(0));
        fails("valueBehind: no kind, over", ARGUMENT, () -> over.valueBehind(4, 0));
        fails("bestMove: no part, over", ARGUMENT, () -> over.bestMove(2));
        fails("logPart: no part, no turn", ARGUMENT, () -> over.logPart(1, 4));
        fails("restoreSnapshot: no slot, nothing saved", ARGUMENT, () -> over.restoreSnapshot(2));
        fails("thought: no card, no kind", INDEX, () -> over.thought(0, 1, 99));
        due("play: no card, but over", over.play(9), HintTeam.OVER);
        due("discard: no card, but over", over.discard(9), HintTeam.OVER);
        due("hint: the next player by number, but over", over.hint(1, 0, 0), HintTeam.OVER);
        HintTeam none = of("game 1 1 2 1;deck a1 a1 a1;tokens 1 0;color 0 0");
        fails("hint: to oneself, no token", INDEX, () -> none.hint(0, 0, 0));
        fails("hint: no word, no token", ARGUMENT, () -> none.hint(1, 1, 2));
    }

    private static void firstErrors() {
        HintTeam none = of("game 2 1 2 1;deck a1 a1 a1 a1;tokens 1 0;color 0 0;lives 1");
        due("NO_TOKEN before NO_WORD, none left", none.hint(1, 0, 0), HintTeam.NO_TOKEN);
        due("NO_TOKEN before NO_WORD, none touched", none.hint(1, 0, 1), HintTeam.NO_TOKEN);
        none.play(0);
        due("a1 gave a token", none.count(5), 1);
        due("NO_WORD", none.hint(0, 0, 0), HintTeam.NO_WORD);
        none.play(0);
        due("OVER before NO_WORD", none.hint(0, 0, 0), HintTeam.OVER);
        due("OVER before HAS_CARDS", none.pass(), HintTeam.OVER);
        due("OVER before NOT_SENSIBLE", none.valueBehind(0, 9), HintTeam.OVER);
        HintTeam many = of("game 4 5 2 5;deck" + MANY.repeat(10) + ";tokens 1 0");
        due("NOT_SENSIBLE before UNKNOWN", many.valueBehind(2, 0), HintTeam.NOT_SENSIBLE);
    }

    private static void predictions() {
        HintTeam first = started();
        keeps("foreseen and bound", first, () -> first.foreseen() + first.bound() + first.pace());
        HintTeam second = started();
        keeps("value and positions", second, () -> second.value() + second.positions());
        HintTeam third = started();
        keeps("valueBehind", third, () -> third.valueBehind(0, 0) + third.valueBehind(1, 1) + third.bestMove(0));
        HintTeam fourth = started();
        keeps("advice and tells", fourth, () -> fourth.advice(0) + fourth.tells(0, 1, 1) + fourth.touches(0, 1, 1));
        HintTeam fifth = started();
        fifth.saveSnapshot(0);
        fifth.foreseen();
        fifth.value();
        due("turns that can be taken back", fifth.undo(), 2);
        fifth.restoreSnapshot(0);
        due("the snapshot", fifth.count(8), 3);
        due("a second time the same", first.foreseen(), second.foreseen());
    }

    private static void totals(String what, HintTeam team, int... due) {
        for (int k = 0; k < due.length; k++) {
            due(what + ", total(" + k + ")", team.total(k), due[k]);
        }
    }

    private static void sinceTheBeginning() {
        totals("a new object", new HintTeam(), 0, 0, 0, 0, 0, 0, 0);
        HintTeam team = of("game 2 1 3 1;deck a1 a1 b1 a1 b1 a1;tokens 3 1");
        team.play(0);
        team.play(0);
        team.discard(0);
        team.hint(1, 0, 0);
        // a1 is played (a token), a1 is lost, b1 is discarded (a token), a hint touches the a1 of player 1.
        due("player 1 has a1 or b1", team.touches(1, 0, 0) + team.touches(1, 0, 1), 1);
        due("played", team.total(0), 1);
        load(team, "game 2 1 3 1;deck a1 a1 b1 a1 b1 a1;tokens 3 1");
        totals("behind load", team, 0, 0, 0, 0, 0, 0, 0);
        team.discard(0);
        due("discarded", team.total(2), 1);
        load(team, "oops");
        due("behind an error", team.total(2), 1);
        team.undo();
        totals("behind undo", team, 0, 0, 0, 0, 0, 0, 0);
    }

    private static void playsAndLosses() {
        HintTeam team = of("game 2 2 2 2;deck a1 b2 b1 a1 a2 a2 a1 a1 a1;lives 3");
        team.play(0);
        totals("one onto a pile", team, 1, 0);
        team.play(0);
        totals("two onto piles", team, 2, 0);
        team.play(0);
        totals("three onto piles", team, 3, 0);
        team.play(0);
        totals("one lost", team, 3, 1, 0, 0);
        team.discard(0);
        totals("a discard is neither", team, 3, 1, 1, 0);
    }

    private static void discardsAndHints() {
        HintTeam team = of("game 1 2 2 1;deck a2 a2 a2 a2 a2 a2;tokens 9 9");
        team.discard(0);
        totals("a discard", team, 0, 0, 1, 0);
        team.hint(0, 0, 0);
        totals("a hint", team, 0, 0, 1, 1);
        team.hint(1, 1, 1);
        totals("a hint that cannot be given", team, 0, 0, 1, 1);
        team.hint(1, 1, 2);
        team.discard(0);
        totals("another one of each", team, 0, 0, 2, 2);
        team.play(0);
        totals("a card that is lost is not discarded", team, 0, 1, 2, 2);
    }

    private static void tokensThatCameBack() {
        HintTeam team = of("game 2 1 2 1;deck a1 b1 a1 a1 a1 a1;tokens 2 1");
        team.discard(0);
        due("2 of 2", team.total(4), 1);
        team.discard(0);
        due("none beyond 2", team.total(4), 1);
        team.play(0);
        due("none beyond 2 for a whole pile", team.total(4), 1);
        team.hint(0, 1, 1);
        due("a hint brings none back", team.total(4), 1);
        team.discard(0);
        due("2 of 2 again", team.total(4), 2);
        HintTeam whole = of("game 2 2 2 1;deck a1 a2 b1 b1;tokens 9 0");
        whole.play(0);
        due("none for rank 1 of 2", whole.total(4), 0);
        whole.play(0);
        due("one for rank 2 of 2", whole.total(4), 1);
    }

    private static void touchedCards() {
        HintTeam team = of("game 2 2 2 3;deck a1 a1 b2 a1 b2 b2 a1 a1;tokens 9 9");
        team.hint(1, 0, 1);
        due("two cards", team.total(5), 2);
        team.hint(0, 1, 1);
        due("and two", team.total(5), 4);
        team.hint(1, 1, 2);
        due("cards that were touched before count again", team.total(5), 6);
        team.undo();
        due("taken back", team.total(5), 4);
    }

    private static void lostKinds() {
        HintTeam team = of("game 2 3 2 1;deck a1 a2 a1 a3 a1 b3 a2 b1 b3 b1;lives 5");
        team.discard(0);
        due("an a1 of three", team.total(6), 0);
        team.play(0);
        due("an a2 of two that is lost", team.total(6), 0);
        team.discard(0);
        due("the second a1 of three", team.total(6), 0);
        team.discard(0);
        due("the only a3", team.total(6), 1);
        team.play(0);
        due("the last a1, which is played", team.total(6), 1);
        due("pile", team.pile(0), 1);
        team.play(0);
        due("a b3 of two without b2", team.total(6), 1);
        team.discard(0);
        due("the other a2", team.total(6), 2);
        HintTeam lost = of("game 2 3 2 1;deck a2 b1 a1 a3 a1 a3");
        lost.play(0);
        due("the only a2, which is lost", lost.total(6), 1);
        lost.discard(0);
        due("the only b1 of a color", lost.total(6), 2);
        lost.discard(0);
        due("an a1 of two", lost.total(6), 2);
        lost.discard(0);
        due("an a3, which is useless without a2", lost.total(6), 2);
        lost.discard(0);
        due("the other a1", lost.total(6), 3);
    }

    private static void noSuchTotals() {
        fails("7 of a new object", ARGUMENT, () -> new HintTeam().total(7));
        fails("-1 of a new object", ARGUMENT, () -> new HintTeam().total(-1));
    }

    private static void logged(String what, HintTeam team, int index, int... due) {
        for (int k = 0; k < 4; k++) {
            due(what + ", part " + k, team.logPart(index, k), due[k]);
        }
    }

    private static void loggedTurns() {
        HintTeam team = of("game 4 5 3 2;deck a1 d5 b1 b2 d5 c3 d4 a1 d5 a1 a1;tokens 5 5");
        team.play(0);
        logged("onto a pile", team, 0, 0, 0, 1, NONE);
        team.discard(1);
        logged("discarded", team, 0, 1, 1, 12, NONE);
        team.hint(1, 0, 0);
        logged("a hint", team, 0, 2, 2, 1, 0);
        team.play(0);
        logged("lost", team, 0, 0, 4, 35, NONE);
        logged("the hint before it", team, 1, 2, 2, 1, 0);
        logged("the discard before it", team, 2, 1, 1, 12, NONE);
        logged("the first turn", team, 3, 0, 0, 1, NONE);
    }

    private static void loggedCardsAndWords() {
        HintTeam team = of("game 4 5 4 1;deck d5 a5 d1 a1 b1 c1 b1 c1;tokens 9 9");
        team.hint(3, 0, 0);
        logged("color 0 to player 3", team, 0, 0, 2, 3, 0);
        team.hint(0, 0, 3);
        logged("color 3 to player 0", team, 0, 1, 2, 0, 3);
        team.hint(1, 1, 5);
        logged("rank 5 to player 1", team, 0, 2, 2, 1, 15);
        team.hint(2, 1, 1);
        logged("rank 1 to player 2", team, 0, 3, 2, 2, 11);
        team.discard(0);
        logged("d5", team, 0, 0, 1, 35, NONE);
        team.play(0);
        logged("a5", team, 0, 1, 4, 5, NONE);
        team.play(0);
        logged("d1", team, 0, 2, 0, 31, NONE);
    }

    /** Two players discard cards by turns, so that turn k discards card k of the deck. */
    private static HintTeam discarded(int turns) {
        HintTeam team = of("game 4 5 2 1;deck" + MANY.repeat(10));
        for (int k = 0; k < turns; k++) {
            team.discard(0);
        }
        return team;
    }

    private static void latestThirty() {
        int[] cards = {1, 12, 23, 34};
        for (int turns : new int[] {1, 29, 30, 31, 32, 38}) {
            HintTeam team = discarded(turns);
            int kept = Math.min(turns, 30);
            for (int index = 0; index < kept; index++) {
                int turn = turns - 1 - index;
                logged("turn " + turn + " of " + turns, team, index, turn % 2, 1, cards[turn % 4], NONE);
            }
            due("no more of " + turns, team.logPart(kept, 0), NO_VALUE);
        }
    }

    private static void broughtBack() {
        HintTeam team = discarded(33);
        due("the fourth turn", team.logPart(29, 2), 34);
        team.undo();
        due("the third one", team.logPart(29, 2), 23);
        team.undo();
        due("the second one", team.logPart(29, 2), 12);
        team.undo();
        due("the first one", team.logPart(29, 2), 1);
        team.undo();
        due("none is before it", team.logPart(29, 2), NO_VALUE);
        due("the first one", team.logPart(28, 2), 1);
        team.play(0);
        due("another turn then", team.logPart(0, 1), 4);
        HintTeam followed = discarded(12);
        followed.follow(20);
        for (int k = 0; k < 20; k++) {
            followed.undo();
        }
        due("all that was written over", followed.logPart(11, 2), 1);
        due("no more", followed.logPart(12, 2), NO_VALUE);
    }

    private static void noSuchTurns() {
        for (int what = 0; what < 4; what++) {
            due("of a new object", new HintTeam().logPart(0, what), NO_VALUE);
            due("of a new game", of(PLAIN).logPart(0, what), NO_VALUE);
        }
        HintTeam team = discarded(2);
        for (int index : new int[] {-1, 2, 29, 30, Integer.MIN_VALUE, Integer.MAX_VALUE}) {
            due("index " + index, team.logPart(index, 0), NO_VALUE);
        }
        load(team, PLAIN);
        due("behind load", team.logPart(0, 0), NO_VALUE);
    }

    private static void noSuchParts() {
        range(discarded(1), 0, 3, ARGUMENT, (team, what) -> team.logPart(0, what));
        range(discarded(1), 0, 3, ARGUMENT, (team, what) -> team.logPart(1, what));
        range(new HintTeam(), 0, 3, ARGUMENT, (team, what) -> team.logPart(0, what));
    }

    private static void latestTurns() {
        HintTeam team = discarded(3);
        team.undo();
        due("the third turn", team.count(8), 2);
        due("it is player 0's again", team.turnOf(), 0);
        team.hint(1, 1, 4);
        team.undo();
        due("the hint in its place", team.count(8), 2);
        due("no token is lacking", team.count(5), 8);
        team.undo();
        team.undo();
        due("all", team.count(8), 0);
        due("the first card again", team.card(0, 0), 1);
        HintTeam large = largest();
        String[] before = new String[4];
        for (int k = 0; k < 4; k++) {
            before[k] = hands(large);
            large.discard(k);
        }
        for (int k = 3; k >= 0; k--) {
            large.undo();
            due("hands before turn " + k, hands(large), before[k]);
        }
    }

    /** Four players with five cards each; 20 others are to be drawn. */
    private static HintTeam largest() {
        return of("game 4 5 4 5;deck a1 a2 a3 a4 a5 b1 b2 b3 b4 b5 c1 c2 c3 c4 c5 d1 d2 d3 d4 d5"
                + " d5 d4 d3 d2 d1 c5 c4 c3 c2 c1 b5 b4 b3 b2 b1 a5 a4 a3 a2 a1");
    }

    private static String hands(HintTeam team) {
        StringBuilder text = new StringBuilder();
        for (int player = 0; player < team.count(2); player++) {
            for (int place = 0; place < team.hand(player); place++) {
                text.append(team.card(player, place)).append(' ');
            }
            text.append('/');
        }
        return text.toString();
    }

    private static void latestTwenty() {
        for (int turns : new int[] {19, 20, 21, 38}) {
            HintTeam team = discarded(turns);
            int back = Math.min(turns, 20);
            for (int left = back - 1; left >= 0; left--) {
                due("undo behind " + turns, team.undo(), left);
            }
            due("no more of " + turns, team.undo(), NONE);
            due("turns", team.count(8), turns - back);
            due("the game", seenGame(team), seenGame(restored(turns - back)));
        }
        HintTeam team = discarded(20);
        team.undo();
        team.discard(0);
        due("20 again", team.count(10), 20);
        team.discard(0);
        due("no more than 20", team.count(10), 20);
    }

    /** A game behind so many turns of which none can be taken back. */
    private static HintTeam restored(int turns) {
        HintTeam team = discarded(turns);
        team.saveSnapshot(0);
        team.restoreSnapshot(0);
        return team;
    }

    private static void numbersLeft() {
        HintTeam team = discarded(3);
        due("2 of 3", team.undo(), 2);
        due("2 of 3", team.count(10), 2);
        due("1 of 3", team.undo(), 1);
        due("none of 3", team.undo(), 0);
        due("none of 3", team.count(10), 0);
        HintTeam many = discarded(25);
        due("19 of 20", many.undo(), 19);
    }

    private static void nothingToTakeBack() {
        due("a new object", new HintTeam().undo(), NONE);
        HintTeam team = of(PLAIN);
        due("a new game", team.undo(), NONE);
        keeps("undo", team, team::undo);
        HintTeam one = discarded(1);
        one.undo();
        due("taken back already", one.undo(), NONE);
        due("turns", one.count(8), 0);
        HintTeam behind = discarded(25);
        for (int k = 0; k < 20; k++) {
            behind.undo();
        }
        keeps("the 21st undo", behind, behind::undo);
        due("turns", behind.count(8), 5);
    }

    private static void replacedOutputs() {
        HintTeam team = of("game 2 2 2 2;deck a1 b2 b1 a2;tokens 1 0");
        written(team, 0, true, "a1 b2");
        written(team, 1, true, "b1 a2");
        written(team, 0, false, "?? ??");
        team.discard(0);
        due("it stays behind a turn", output(team), "?? ??");
        written(team, 0, true, "b2");
        HintTeam empty = of("game 1 1 2 1;deck a1 a1");
        written(empty, 1, true, "a1");
        empty.discard(0);
        written(empty, 0, true, "");
    }

    private static void seenCards() {
        HintTeam team = of("game 4 5 2 5;deck a1 b2 c3 d4 a5 d1 c2 b3 a4 d5");
        written(team, 0, true, "a1 b2 c3 d4 a5");
        written(team, 1, true, "d1 c2 b3 a4 d5");
    }

    private static void unseenCards() {
        HintTeam team = of("game 3 4 2 3;deck a1 b2 c4 a1 b2 c3 a1;tokens 9 9");
        written(team, 1, false, "?? ?? ??");
        team.hint(1, 0, 1);
        written(team, 1, false, "?? b? ??");
        team.hint(0, 1, 4);
        written(team, 0, false, "?? ?? ?4");
        written(team, 0, true, "a1 b2 c4");
        team.hint(1, 0, 2);
        written(team, 1, false, "a? b? c?");
        team.hint(0, 0, 2);
        written(team, 0, false, "?? ?? c4");
        written(of("game 1 2 2 1;deck a1 a2"), 0, false, "a?");
        written(of("game 2 1 2 1;deck a1 b1"), 1, false, "?1");
        written(of("game 1 1 2 1;deck a1 a1"), 1, false, "a1");
        // Player 0 knows the card, as it is the only other one, but not by hints.
        HintTeam sure = of("game 2 2 2 1;deck a1 b2");
        due("one kind", sure.thinks(0, 0), 1);
        written(sure, 0, false, "??");
        // All ranks but one are ruled out by hints that did not touch the card.
        HintTeam left = of("game 2 3 2 3;deck a1 a2 b3 a1 a2 b3 a1 a1;tokens 9 9");
        left.hint(1, 1, 1);
        left.hint(0, 0, 1);
        written(left, 1, false, "?1 ?? ??");
        left.hint(1, 1, 2);
        written(left, 1, false, "?1 ?2 ?3");
        written(left, 0, false, "a? a? b?");
    }

    private static void spacesBetweenCards() {
        for (int cards = 1; cards <= 5; cards++) {
            HintTeam team = of("game 1 2 2 " + cards + ";deck" + " a2".repeat(2 * cards));
            written(team, 0, true, "a2" + " a2".repeat(cards - 1));
            due("the longest output", team.writeHand(1, false), 3 * cards - 1);
            team.discard(0);
            written(team, 0, true, "a2 ".repeat(cards - 1).trim());
        }
    }

    private static void handsOfNobody() {
        needsPlayer((team, player) -> team.writeHand(player, true));
        needsPlayer((team, player) -> team.writeHand(player, false));
        HintTeam team = of(PLAIN);
        team.writeHand(0, true);
        fails("no player 2", INDEX, () -> team.writeHand(2, true));
        due("the output stays", output(team), "a1 b1");
    }

    private static void bytesOfOutput() {
        HintTeam team = of(PLAIN);
        team.writeHand(1, true);
        int[] due = {97, 50, 32, 98, 50, NONE};
        for (int index = 0; index < due.length; index++) {
            due("byte " + index, team.outputByte(index), due[index]);
        }
        team.writeHand(1, false);
        due("a question mark", team.outputByte(0), 63);
    }

    private static void bytesBeyondOutput() {
        due("of a new object", new HintTeam().outputByte(0), NONE);
        HintTeam team = of("game 1 2 2 5;deck" + " a2".repeat(10));
        due("nothing was written", team.outputByte(0), NONE);
        team.writeHand(0, true);
        due("the last one", team.outputByte(13), '2');
        for (int index : new int[] {-1, 14, 15, 600, Integer.MIN_VALUE, Integer.MAX_VALUE}) {
            due("byte " + index, team.outputByte(index), NONE);
        }
        HintTeam empty = of("game 2 1 2 1;deck a1 a1");
        empty.writeHand(1, true);
        empty.discard(0);
        empty.writeHand(0, true);
        due("an empty hand, in place of two bytes", empty.outputByte(0), NONE);
        due("an empty hand, in place of two bytes", empty.outputByte(1), NONE);
    }

    private static void everythingCopied() {
        HintTeam team = started();
        String before = seenGame(team);
        team.saveSnapshot(1);
        due("saving changes nothing", seenGame(team), before);
        team.follow(100);
        due("it went on", team.count(8) > 3, true);
        team.restoreSnapshot(1);
        due("all but the turns that can be taken back", seenGame(team), before.replace("\nback 3\n", "\nback 0\n"));
        HintTeam large = largest();
        for (int k = 0; k < 4; k++) {
            large.discard(0);
        }
        String dealt = hands(large);
        large.saveSnapshot(0);
        large.discard(4);
        large.discard(3);
        large.discard(2);
        large.discard(1);
        large.restoreSnapshot(0);
        due("all hands", hands(large), dealt);
    }

    private static void notCopied() {
        HintTeam team = started();
        load(team, "game 1 1 2 1");
        team.append(0x616263);
        team.saveSnapshot(0);
        due("turns that can be taken back stay", team.count(10), 3);
        due("undo", team.undo(), 2);
        team.writeHand(1, true);
        team.append(0x64);
        team.saveSnapshot(1);
        load(team, "?");
        team.append(0x6566);
        due("restored", team.restoreSnapshot(0), 1);
        due("the input buffer", team.append(0), 2);
        due("the error", team.loadError(), 1);
        due("the statement", team.loadStatement(), 0);
        due("the output", output(team), "a2 b2");
        due("the other snapshot", team.restoreSnapshot(1), 1);
        due("turns of the other snapshot", team.count(8), 2);
    }

    private static void twoSlots() {
        HintTeam team = of(PLAIN);
        team.saveSnapshot(0);
        team.play(0);
        team.saveSnapshot(1);
        team.discard(0);
        due("slot 0", team.restoreSnapshot(0), 0);
        due("slot 1", team.restoreSnapshot(1), 1);
        due("turns", team.count(8), 1);
        due("slot 0 again", team.restoreSnapshot(0), 0);
        team.discard(0);
        team.saveSnapshot(1);
        due("slot 0 stays", team.restoreSnapshot(0), 0);
        due("no turn", team.count(8), 0);
        team.restoreSnapshot(1);
        due("slot 1 was written over", team.count(8), 1);
        due("slot 1 was written over", team.total(2), 1);
    }

    private static void scoresOfSnapshots() {
        HintTeam team = of(PLAIN);
        due("score", team.saveSnapshot(0), 0);
        team.play(0);
        due("score", team.saveSnapshot(1), 1);
        team.discard(0);
        team.play(0);
        due("score", team.count(7), 2);
        due("score", team.saveSnapshot(1), 2);
        due("score", team.restoreSnapshot(0), 0);
        due("score", team.restoreSnapshot(1), 2);
        due("a new object", new HintTeam().saveSnapshot(0), 0);
    }

    private static void snapshotStays() {
        HintTeam team = started();
        team.saveSnapshot(0);
        team.restoreSnapshot(0);
        String before = seenGame(team);
        team.hint(0, 0, 1);
        team.play(0);
        team.restoreSnapshot(0);
        due("behind turns", seenGame(team), before);
        due("buffer", load(team, "game 4 5 2 1;deck d5 d5 d5;tokens 1 1"), 3);
        team.hint(1, 1, 5);
        team.restoreSnapshot(0);
        due("behind another game", seenGame(team), before);
        team.restoreSnapshot(0);
        due("a second time", seenGame(team), before);
    }

    private static void nothingBackBehindRestore() {
        HintTeam team = discarded(5);
        team.saveSnapshot(0);
        due("saving leaves them", team.count(10), 5);
        team.restoreSnapshot(0);
        due("none", team.count(10), 0);
        due("undo", team.undo(), NONE);
        team.discard(0);
        due("a turn behind it", team.count(10), 1);
        due("undo", team.undo(), 0);
        due("no more", team.undo(), NONE);
        due("turns", team.count(8), 5);
    }

    private static void nothingSaved() {
        HintTeam team = started();
        due("slot 0", team.restoreSnapshot(0), NONE);
        due("slot 1", team.restoreSnapshot(1), NONE);
        due("turns that can be taken back", team.undo(), 2);
        team.saveSnapshot(1);
        due("slot 0, with slot 1 saved", team.restoreSnapshot(0), NONE);
        HintTeam fresh = new HintTeam();
        fresh.saveSnapshot(0);
        load(fresh, PLAIN);
        due("a game without players was saved", fresh.restoreSnapshot(0), 0);
        due("players", fresh.count(2), 0);
        due("over", fresh.over(), 3);
        due("turns left", fresh.count(9), 0);
    }

    private static void noSuchSlots() {
        HintTeam team = of(PLAIN);
        team.saveSnapshot(0);
        team.saveSnapshot(1);
        range(team, 0, 1, ARGUMENT, HintTeam::restoreSnapshot);
        range(of(PLAIN), 0, 1, ARGUMENT, HintTeam::restoreSnapshot);
    }
}
