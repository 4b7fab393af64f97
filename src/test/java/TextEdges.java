import java.math.BigInteger;

/** The edges of section 1 and of promises 1 to 5: what is appended and loaded. */
final class TextEdges extends Edges {
    private static final String TWO = "game 1 1 2 1;deck a1 a1";
    private static final String FORTY = "game 4 5 2 1;deck" + " a1 b2 c3 d4 a5".repeat(8);

    static void run() {
        statements();
        words();
        errors();
        newObjects();
        promises();
    }

    private static void statements() {
        edge(0, "A description is a list of one or more statements, separated by semicolons", TextEdges::lists);
        edge(0, "game COLORS RANKS PLAYERS HAND - 1 to 4, 1 to 5, 2 to 4 and 1 to 5;", TextEdges::gameNumbers);
        edge(0, "it stands once, as the first statement;", TextEdges::gameOnce);
        edge(0, "the cards in the order in which they are drawn, at most 40 in all;", TextEdges::mostCards);
        edge(0, "each one a letter a to d (color 0 to 3, less than COLORS)", TextEdges::letters);
        edge(0, "and directly behind it one digit (the rank, 1 to RANKS);", TextEdges::ranks);
        edge(0, "a further statement deck adds cards behind them;", TextEdges::furtherDecks);
        edge(0, "tokens MOST START - 1 to 9, and 0 to MOST;", TextEdges::tokenNumbers);
        edge(0, "8 and 8 without it;", () -> tokens(TWO, 8, 8));
        edge(0, "of several the last one counts; lives", TextEdges::severalTokens);
        edge(0, "of several the last one counts;", TextEdges::severalTokens);
        edge(0, "lives LIVES - 1 to 5, 3 without it, likewise;", TextEdges::livesNumbers);
        edge(0, "color COLOR TIMES, rank RANK TIMES - how often this word can be given as a hint;",
                TextEdges::wordTimes);
        edge(0, "COLOR 0 to COLORS - 1, RANK 1 to RANKS, TIMES 0 to 99;", TextEdges::wordNumbers);
        edge(0, "99 without it;", TextEdges::wordsWithoutTimes);
        edge(0, "99 without it; of several the last one counts;", TextEdges::severalTimes);
        edge(0, "shuffle SEED - 0 to 999999: behind the whole text, the cards of the deck are exchanged",
                TextEdges::seeds);
        edge(0, "for k from their number - 1 down to 1, a draw of k + 1 is made", TextEdges::exchanges);
        edge(0, "of several the last one counts.", TextEdges::severalSeeds);
        edge(0, "the seed s becomes (s * 1103515245 + 12345) modulo 2147483648", TextEdges::draws);
    }

    private static void words() {
        edge(0, "A word is a maximal run of lower-case letters, a number a maximal run of digits.", TextEdges::runs);
        edge(0, "Spaces (byte 32) may stand before and after words, numbers, cards and semicolons;", TextEdges::spaces);
        edge(0, "they are required only between two numbers.", TextEdges::requiredSpaces);
    }

    private static void errors() {
        edge(0, "The text is read from left to right;", TextEdges::firstErrors);
        edge(0, "the first error ends it.", TextEdges::firstErrors);
        edge(0, "Error 1: a byte or a word cannot stand at its place (position of the byte or of the word's "
                + "first byte;",
                TextEdges::wrongPlaces);
        edge(0, "also a word of more than one letter where a card must or can stand,", TextEdges::longWordsForCards);
        edge(0, "a letter without a digit directly behind it (position of the letter)", TextEdges::lettersAlone);
        edge(0, "and game behind another statement)", TextEdges::gameBehind);
        edge(0, "or the text ends too early (position: its length).", TextEdges::earlyEnds);
        edge(0, "Error 2: a number is out of its range", TextEdges::wrongNumbers);
        edge(0, "or the letter (another one than those of the colors) or the rank of a card (position of its first "
                + "digit, or of the card;", TextEdges::wrongCards);
        edge(0, "a rank has all digits that stand there).", TextEdges::longRanks);
        edge(0, "Error 3: a 41st card (position of the card;", TextEdges::fortyFirstCard);
        edge(0, "if it has error 2, that one counts).", TextEdges::wrongFortyFirstCard);
        edge(0, "Error 4: fewer cards than PLAYERS * HAND (position: the length of the text;", TextEdges::fewCards);
        edge(0, "it belongs to the last statement).", TextEdges::fewCardsInStatement);
    }

    private static void newObjects() {
        edge(0, "A new object has a game that is over (as if its last round was over)", () -> {
            HintTeam team = new HintTeam();
            due("over", team.over(), 3);
            due("turnOf", team.turnOf(), HintTeam.NONE);
            due("turns left", team.count(9), 0);
        });
        edge(0, "with COLORS, RANKS, HAND, tokens, lives and all cards 0, and PLAYERS 0.", () -> {
            HintTeam team = new HintTeam();
            for (int what : new int[] {0, 1, 2, 3, 4, 5, 6, 7}) {
                due("count(" + what + ")", team.count(what), 0);
            }
            due("drawn", team.drawn(0), HintTeam.NONE);
            fails("no player", INDEX, () -> team.hand(0));
            fails("no color", INDEX, () -> team.pile(0));
        });
        edge(1, "with an empty input buffer, an empty output and no snapshots.", () -> {
            HintTeam team = new HintTeam();
            due("buffer", team.append(0), 0);
            due("output", team.outputByte(0), HintTeam.NONE);
            due("snapshot 0", team.restoreSnapshot(0), HintTeam.NONE);
            due("snapshot 1", team.restoreSnapshot(1), HintTeam.NONE);
        });
    }

    private static void promises() {
        edge(2, "the 8 bytes of a number, the most significant byte first", TextEdges::byteOrder);
        edge(2, "where bytes that are 0 are left out.", TextEdges::zeroBytes);
        edge(2, "Returns the new length of the buffer;", TextEdges::lengths);
        edge(2, "FULL if it would exceed 600.", TextEdges::fullBuffer);
        edge(3, "begins the game; nothing can be taken back.", TextEdges::loadTakesNothingBack);
        edge(3, "nothing can be taken back.", TextEdges::loadTakesNothingBack);
        edge(3, "Reads the input buffer as a description (section 1) and begins the game;", TextEdges::beginsAnew);
        edge(3, "The buffer is emptied, also on an error.", TextEdges::emptiedBuffer);
        edge(3, "The snapshots and the output stay.", TextEdges::loadLeavesOthers);
        edge(3, "Returns the number of cards;", TextEdges::numbersOfCards);
        edge(3, "-100 minus the position of the error if the text has one", TextEdges::positions);
        edge(3, "and then nothing but the buffer and the results of loadError() and loadStatement() changes.",
                TextEdges::errorLeavesGame);
        edge(4, "Returns the kind of the error of the latest call of load().", TextEdges::latestErrors);
        edge(4, "Returns 1 to 4 (section 1);", TextEdges::kindsOfErrors);
        edge(4, "0 if the text had no error or there was no such call.", TextEdges::noErrors);
        edge(5, "Returns in which statement the latest call of load() found its error.", TextEdges::latestErrors);
        edge(5, "A byte behind a statement that is no semicolon belongs to that statement;", TextEdges::byteBehind);
        edge(5, "what follows a semicolon belongs to the next one.", TextEdges::behindSemicolons);
        edge(5, "Returns the index of the statement, from 0;", TextEdges::behindSemicolons);
        edge(5, "NONE if the text had no error or there was no such call.", TextEdges::noErrors);
    }

    private static void error(String text, int kind, int position, int statement) {
        HintTeam team = new HintTeam();
        due("load of " + text, load(team, text), -100 - position);
        due("error of " + text, team.loadError(), kind);
        due("statement of " + text, team.loadStatement(), statement);
    }

    /** Loads a text with an error behind a head that has none. */
    private static void errorBehind(String head, String rest, int kind, int position) {
        error(head + rest, kind, head.length() + position, (int) head.chars().filter(sign -> sign == ';').count());
    }

    private static void right(String text, int cards) {
        HintTeam team = new HintTeam();
        due("load of " + text, load(team, text), cards);
        due("error of " + text, team.loadError(), 0);
        due("statement of " + text, team.loadStatement(), HintTeam.NONE);
    }

    /** The cards of a game for two with one card each, in the order of the deck. */
    private static String order(HintTeam team) {
        StringBuilder text = new StringBuilder();
        text.append(team.card(0, 0)).append(' ').append(team.card(1, 0));
        for (int k = 0; team.drawn(k) != HintTeam.NONE; k++) {
            text.append(' ').append(team.drawn(k));
        }
        return text.toString();
    }

    private static void lists() {
        right(TWO, 2);
        right(TWO + ";lives 1", 2);
        error("", 1, 0, 0);
        error(";", 1, 0, 0);
        error("game 1 1 2 1;;deck a1 a1", 1, 13, 1);
        error(TWO + ";", 1, 24, 2);
        error("game 1 1 2 1,deck a1 a1", 1, 12, 0);
    }

    private static void gameNumbers() {
        String lowest = "game 1 1 2 1;deck a1 a1";
        String highest = "game 4 5 4 5;deck" + " a1 b2 c3 d4".repeat(5);
        int[][] due = {{1, 1, 2, 1}, {4, 5, 4, 5}};
        for (int what = 0; what < 4; what++) {
            due("lowest number " + what, of(lowest).count(what), due[0][what]);
            due("highest number " + what, of(highest).count(what), due[1][what]);
        }
        int[] positions = {5, 7, 9, 11};
        for (int what = 0; what < 4; what++) {
            StringBuilder low = new StringBuilder(lowest);
            low.setCharAt(positions[what], (char) ('0' + due[0][what] - 1));
            error(low.toString(), 2, positions[what], 0);
            StringBuilder high = new StringBuilder(highest);
            high.setCharAt(positions[what], (char) ('0' + due[1][what] + 1));
            error(high.toString(), 2, positions[what], 0);
        }
    }

    private static void gameOnce() {
        error("deck a1 a1;game 1 1 2 1", 1, 0, 0);
        error("lives 3;game 1 1 2 1;deck a1 a1", 1, 0, 0);
        error("game 1 1 2 1;game 1 1 2 1;deck a1 a1", 1, 13, 1);
        errorBehind(TWO + ";", "game 1 1 2 1", 1, 0);
    }

    private static void mostCards() {
        due("order", order(of("game 2 3 2 1;deck b3 a1 a2 b1")), "13 1 2 11");
        right(FORTY, 40);
        right("game 4 5 2 1" + ";deck a1 b2 c3 d4 a5".repeat(8), 40);
        errorBehind(FORTY, " d1", 3, 1);
        errorBehind("game 4 5 2 1" + ";deck a1 b2 c3 d4 a5".repeat(8) + ";", "deck d1", 3, 5);
    }

    private static void letters() {
        for (int colors = 1; colors <= 4; colors++) {
            String head = "game " + colors + " 1 2 1;deck a1 ";
            char last = (char) ('a' + colors - 1);
            right(head + last + "1", 2);
            due("the highest color of " + colors, of(head + last + "1").card(1, 0), 10 * (colors - 1) + 1);
            errorBehind(head, (char) (last + 1) + "1", 2, 0);
            errorBehind(head, "z1", 2, 0);
            errorBehind(head, "A1", 1, 0);
            errorBehind(head, "`1", 1, 0);
            errorBehind(head, "{1", 1, 0);
        }
    }

    private static void ranks() {
        for (int ranks = 1; ranks <= 5; ranks++) {
            String head = "game 1 " + ranks + " 2 1;deck a1 ";
            right(head + "a" + ranks, 2);
            due("the highest rank of " + ranks, of(head + "a" + ranks).card(1, 0), ranks);
            errorBehind(head, "a" + (ranks + 1), 2, 0);
            errorBehind(head, "a0", 2, 0);
            errorBehind(head, "a9", 2, 0);
            errorBehind(head, "a 1", 1, 0);
            errorBehind(head, "a1" + ranks, 2, 0);
        }
    }

    private static void furtherDecks() {
        due("order", order(of("game 2 3 2 1;deck b3;lives 2;deck a1 a2;deck b1;tokens 1 1")), "13 1 2 11");
        due("cards", of("game 2 3 2 1;deck b3;deck a1;deck a2").count(4), 1);
    }

    /** A game begins with so many tokens, and discarding cards brings back so many at most. */
    private static void tokens(String text, int most, int start) {
        HintTeam team = of(text.replace("deck a1 a1", "deck" + " a1".repeat(12)));
        due("tokens of " + text, team.count(5), start);
        for (int k = 0; k < 10; k++) {
            team.discard(0);
        }
        due("most tokens of " + text, team.count(5), most);
        team.hint(1 - team.turnOf(), 0, 0);
        due("one less than most of " + text, team.count(5), most - 1);
        due("most tokens of " + text + " again", team.discard(0), most);
    }

    private static void tokenNumbers() {
        tokens(TWO + ";tokens 1 0", 1, 0);
        tokens(TWO + ";tokens 1 1", 1, 1);
        tokens(TWO + ";tokens 9 0", 9, 0);
        tokens(TWO + ";tokens 9 9", 9, 9);
        errorBehind(TWO + ";", "tokens 0 0", 2, 7);
        errorBehind(TWO + ";", "tokens 10 1", 2, 7);
        errorBehind(TWO + ";", "tokens 1 2", 2, 9);
        errorBehind(TWO + ";", "tokens 8 9", 2, 9);
        errorBehind(TWO + ";", "tokens 9 10", 2, 9);
    }

    private static void severalTokens() {
        tokens(TWO + ";tokens 9 9;tokens 2 1", 2, 1);
        tokens("game 1 1 2 1;tokens 1 1;deck a1 a1;tokens 5 0;tokens 6 5", 6, 5);
        errorBehind("game 1 1 2 1;", "tokens 0 0;deck a1 a1;tokens 5 5", 2, 7);
    }

    private static void livesNumbers() {
        due("lowest", of(TWO + ";lives 1").count(6), 1);
        due("highest", of(TWO + ";lives 5").count(6), 5);
        due("without it", of(TWO).count(6), 3);
        due("the last one counts", of("game 1 1 2 1;lives 5;deck a1 a1;lives 4;lives 2").count(6), 2);
        errorBehind(TWO + ";", "lives 0", 2, 6);
        errorBehind(TWO + ";", "lives 6", 2, 6);
        errorBehind(TWO + ";lives 3;", "lives 6", 2, 6);
    }

    private static void wordTimes() {
        HintTeam team = of("game 2 2 2 1;deck a1 b2 a1 a1;color 1 1;rank 1 1;rank 2 0");
        due("rank 2, 0 times", team.hint(1, 1, 2), HintTeam.NO_WORD);
        due("color 1, once", team.hint(1, 0, 1), 1);
        due("rank 1, once", team.hint(0, 1, 1), 1);
        due("color 1, again", team.hint(1, 0, 1), HintTeam.NO_WORD);
        team.discard(0);
        due("rank 1, again", team.hint(0, 1, 1), HintTeam.NO_WORD);
        due("color 0, without a statement", team.hint(0, 0, 0), 1);
        eachWordHasItsTimes();
    }

    private static void eachWordHasItsTimes() {
        StringBuilder text = new StringBuilder("game 4 5 2 1;deck a1 d1 a1;tokens 9 9");
        for (int color = 0; color < 4; color++) {
            text.append(";color ").append(color).append(" 1").append(color);
        }
        for (int rank = 1; rank <= 5; rank++) {
            text.append(";rank ").append(rank).append(" 2").append(rank);
        }
        HintTeam team = of(text.toString());
        timesLeft(team, 13, 21);
        team.hint(1, 1, 1);
        timesLeft(team, 13, 20);
        team.undo();
        team.hint(1, 0, 3);
        timesLeft(team, 12, 21);
    }

    /** All words but color 3 and rank 1 have 10 times and the color, or 20 times and the rank. */
    private static void timesLeft(HintTeam team, int ofColor3, int ofRank1) {
        for (int color = 0; color < 4; color++) {
            due("color " + color, team.wordsLeft(0, color), color == 3 ? ofColor3 : 10 + color);
        }
        for (int rank = 1; rank <= 5; rank++) {
            due("rank " + rank, team.wordsLeft(1, rank), rank == 1 ? ofRank1 : 20 + rank);
        }
    }

    private static void wordNumbers() {
        String head = "game 3 4 2 1;deck a1 a1;";
        due("lowest color and times", of(head + "color 0 0").wordsLeft(0, 0), 0);
        due("highest color and times", of(head + "color 2 99").wordsLeft(0, 2), 99);
        due("lowest rank and times", of(head + "rank 1 0").wordsLeft(1, 1), 0);
        due("highest rank and times", of(head + "rank 4 98").wordsLeft(1, 4), 98);
        errorBehind(head, "color 3 1", 2, 6);
        errorBehind(head, "color 4 1", 2, 6);
        errorBehind(head, "color 0 100", 2, 8);
        errorBehind(head, "rank 0 1", 2, 5);
        errorBehind(head, "rank 5 1", 2, 5);
        errorBehind(head, "rank 4 100", 2, 7);
        errorBehind("game 4 5 2 1;deck a1 a1;", "color 4 1", 2, 6);
        errorBehind("game 4 5 2 1;deck a1 a1;", "rank 6 1", 2, 5);
    }

    private static void wordsWithoutTimes() {
        HintTeam team = of("game 4 5 2 1;deck a1 a1;color 1 5;rank 5 6");
        for (int value = 0; value < 4; value++) {
            due("color " + value, team.wordsLeft(0, value), value == 1 ? 5 : 99);
        }
        for (int value = 1; value <= 5; value++) {
            due("rank " + value, team.wordsLeft(1, value), value == 5 ? 6 : 99);
        }
    }

    private static void severalTimes() {
        HintTeam team = of("game 2 2 2 1;rank 1 0;color 1 7;deck a1 a1;color 1 0;rank 1 4;color 1 2;rank 2 9");
        due("color 1", team.wordsLeft(0, 1), 2);
        due("color 0", team.wordsLeft(0, 0), 99);
        due("rank 1", team.wordsLeft(1, 1), 4);
        due("rank 2", team.wordsLeft(1, 2), 9);
    }

    private static void seeds() {
        right("game 1 1 2 1;shuffle 0;deck a1 a1", 2);
        right(TWO + ";shuffle 999999", 2);
        errorBehind(TWO + ";", "shuffle 1000000", 2, 8);
        errorBehind(TWO + ";", "shuffle 99999999999999999999", 2, 8);
        errorBehind(TWO + ";", "shuffle -1", 1, 8);
        String before = order(of("game 4 5 2 1;shuffle 5;deck a1 a2 a3 a4 a5 b1"));
        due("a deck behind it", before, order(of("game 4 5 2 1;deck a1 a2 a3 a4 a5 b1;shuffle 5")));
        due("decks around it", before, order(of("game 4 5 2 1;deck a1 a2;shuffle 5;deck a3 a4 a5 b1")));
        due("without it", order(of("game 4 5 2 1;deck a1 a2 a3 a4 a5 b1")), "1 2 3 4 5 11");
    }

    /** The order of a shuffled deck as the document tells it, with numbers that have no end. */
    private static String shuffled(String cards, int seed) {
        String[] deck = cards.split(" ");
        BigInteger s = BigInteger.valueOf(seed);
        for (int k = deck.length - 1; k >= 1; k--) {
            s = s.multiply(BigInteger.valueOf(1103515245)).add(BigInteger.valueOf(12345))
                    .mod(BigInteger.valueOf(2147483648L));
            int draw = s.divide(BigInteger.valueOf(65536)).mod(BigInteger.valueOf(k + 1)).intValue();
            String kept = deck[k];
            deck[k] = deck[draw];
            deck[draw] = kept;
        }
        StringBuilder order = new StringBuilder();
        for (String card : deck) {
            order.append(10 * (card.charAt(0) - 'a') + card.charAt(1) - '0').append(' ');
        }
        return order.toString().trim();
    }

    private static void shuffles(String cards, int seed) {
        due("seed " + seed + " for " + cards, order(of("game 4 5 2 1;deck " + cards + ";shuffle " + seed)),
                shuffled(cards, seed));
    }

    private static void exchanges() {
        // One draw of 2 is made: for seed 0 it is 12345 / 65536 % 2 = 0, for seed 2 it is 59559187 / 65536 % 2
        // = 908 % 2 = 0, for seed 3 it is 1163074432 / 65536 % 2 = 17747 % 2 = 1.
        due("0 of 2", order(of("game 1 2 2 1;deck a1 a2;shuffle 0")), "2 1");
        due("0 of 2", order(of("game 1 2 2 1;deck a1 a2;shuffle 2")), "2 1");
        due("1 of 2", order(of("game 1 2 2 1;deck a1 a2;shuffle 3")), "1 2");
        // Seed 0: 0 of 4, 21468 % 3 = 0, 9988 % 2 = 0.
        due("four cards", order(of("game 1 4 2 1;deck a1 a2 a3 a4;shuffle 0")), "2 3 4 1");
        shuffles("a1 a2 a3", 17);
        shuffles("a1 a2 a3 a4 a5 b1 b2 b3 b4 b5 c1 c2 c3 c4 c5 d1 d2 d3 d4 d5", 17);
    }

    private static void severalSeeds() {
        String deck = "game 1 4 2 1;shuffle 9;deck a1 a2 a3 a4;shuffle 77";
        due("the last one", order(of(deck + ";shuffle 0")), "2 3 4 1");
        due("another last one", order(of(deck + ";shuffle 0;shuffle 5")), shuffled("a1 a2 a3 a4", 5));
    }

    private static void draws() {
        String cards = "a1 a2 a3 a4 a5 b1 b2 b3 b4 b5 c1 c2 c3 c4 c5 d1 d2 d3 d4 d5 a5 a4 a3 a2 a1 d5 d4 d3 d2 d1";
        for (int seed : new int[] {0, 1, 2, 3, 65535, 65536, 99999, 123456, 500000, 999998, 999999}) {
            shuffles(cards, seed);
        }
    }

    private static void runs() {
        error("games 1 1 2 1", 1, 0, 0);
        error("gam 1 1 2 1", 1, 0, 0);
        error("same 1 1 2 1", 1, 0, 0);
        for (String word : new String[] {"peck a1", "sokens 3 3", "fives 3", "dolor 0 3", "bank 1 3", "thuffle 3"}) {
            errorBehind(TWO + ";", word, 1, 0);
        }
        for (String word : new String[] {"decl a1", "tokenz 3 3", "liver 3", "colon 0 3", "rang 1 3", "shuffla 3"}) {
            errorBehind(TWO + ";", word, 1, 0);
        }
        error("gaMe 1 1 2 1", 1, 0, 0);
        error("ga me 1 1 2 1", 1, 0, 0);
        errorBehind("game 1 1 2 1;", "decka1 a1", 1, 0);
        errorBehind(TWO + ";", "lifes 3", 1, 0);
        errorBehind(TWO + ";", "tokenss 3 3", 1, 0);
        errorBehind(TWO + ";", "xcolor 0 3", 1, 0);
        errorBehind("game 1 1 ", "21", 2, 0);
        errorBehind(TWO + ";", "tokens 83", 2, 7);
        due("digits together", of(TWO + ";color 0 12").wordsLeft(0, 0), 12);
        due("zeros before a number", of("game 01 001 2 1;deck a1 a1;tokens 09 0008").count(5), 8);
    }

    private static void spaces() {
        right("   game   1  1 2   1   ;   deck   a1   a1   ;  lives   2   ;  rank 1  1  ", 2);
        error("game\t1 1 2 1;deck a1 a1", 1, 4, 0);
        error("game 1 1 2 1;\ndeck a1 a1", 1, 13, 1);
        error("\u00a0game 1 1 2 1;deck a1 a1", 1, 0, 0);
        errorBehind("game 1 1 2 1;", "deck a1\ra1", 1, 7);
        errorBehind(TWO, "\u001f", 1, 0);
        errorBehind(TWO, "!", 1, 0);
    }

    private static void requiredSpaces() {
        right("game1 1 2 1;deck a1a1;tokens8 8;lives3;color0 1;rank1 1;shuffle0", 2);
        errorBehind("game1 1 ", "21;deck a1a1", 2, 0);
        errorBehind(TWO + ";", "tokens88", 2, 6);
    }

    private static void firstErrors() {
        error("game 9 x", 2, 5, 0);
        error("game x 9", 1, 5, 0);
        error("game 1 1 2 9;oops", 2, 11, 0);
        errorBehind("game 1 1 2 1;", "deck a9 ?;oops", 2, 5);
        errorBehind("game 1 1 2 1;", "deck ? a9", 1, 5);
        errorBehind("game 1 1 2 1;deck a1;", "oops;lives 9", 1, 0);
        errorBehind("game 1 1 2 1;deck a1;", "lives 9;oops", 2, 6);
        errorBehind(FORTY, " a1 a9 ?", 3, 1);
    }

    private static void wrongPlaces() {
        error("?", 1, 0, 0);
        error("1", 1, 0, 0);
        error(" games", 1, 1, 0);
        error("gamE 1 1 2 1", 1, 0, 0);
        error("game a 1 2 1", 1, 5, 0);
        error("game ab 1 2 1", 1, 5, 0);
        error("game 1 1 2 1 deck a1 a1", 1, 13, 0);
        error("game 1 1 2 1 1", 1, 13, 0);
        error("game 1 1 2 -1", 1, 11, 0);
        error("game 1;1 2 1", 1, 6, 0);
        errorBehind(TWO + ";", "lives 3 3", 1, 8);
        errorBehind(TWO + ";", "lives 3lives 3", 1, 7);
        errorBehind(TWO + ";", "lives +3", 1, 6);
        errorBehind(TWO + ";", "tokens 3;", 1, 8);
        errorBehind(TWO + ";", "color a 1", 1, 6);
        errorBehind(TWO + ";", "rank 1 a", 1, 7);
        errorBehind("game 1 1 2 1;", "deck 11", 1, 5);
        errorBehind("game 1 1 2 1;", "deck;a1 a1", 1, 4);
        errorBehind(TWO, " 1", 1, 1);
        errorBehind(TWO, "-", 1, 0);
        errorBehind(TWO, "\u00ff", 1, 0);
    }

    private static void longWordsForCards() {
        errorBehind("game 1 1 2 1;", "deck aa1", 1, 5);
        errorBehind("game 1 1 2 1;", "deck lives 3", 1, 5);
        errorBehind("game 1 1 2 1;", "deck a1 ab1", 1, 8);
        errorBehind("game 1 1 2 1;", "deck a1ab1", 1, 7);
        errorBehind("game 1 1 2 1;", "deck a1 a1 zz", 1, 11);
        errorBehind("game 1 1 2 1;", "deck a1 a1 lives 3", 1, 11);
    }

    private static void lettersAlone() {
        errorBehind("game 1 1 2 1;", "deck a", 1, 5);
        errorBehind("game 1 1 2 1;", "deck a ", 1, 5);
        errorBehind("game 1 1 2 1;", "deck a 1", 1, 5);
        errorBehind("game 1 1 2 1;", "deck a;", 1, 5);
        errorBehind("game 1 1 2 1;", "deck a1 a1 a", 1, 11);
        errorBehind("game 1 1 2 1;", "deck a1 z ", 1, 8);
        errorBehind(FORTY, " a", 1, 1);
    }

    private static void gameBehind() {
        errorBehind("game 1 1 2 1;", "game", 1, 0);
        errorBehind("game 1 1 2 1;", " game 1 1 2 1", 1, 1);
        errorBehind(TWO + ";lives 3;", "game 1 1 2 1;deck a1 a1", 1, 0);
    }

    private static void earlyEnds() {
        String[] heads = {"", "game", "game 1", "game 1 1", "game 1 1 2", "game 1 1 2 1;", "game 1 1 2 1;deck",
            TWO + ";", TWO + ";tokens", TWO + ";tokens 1", TWO + ";lives", TWO + ";color", TWO + ";color 0",
            TWO + ";rank", TWO + ";rank 1", TWO + ";shuffle"};
        for (String head : heads) {
            errorBehind(head, "", 1, 0);
            errorBehind(head, "   ", 1, 3);
        }
    }

    private static void wrongNumbers() {
        errorBehind("game 1 1 2 1;deck a1 a1;", "lives 10", 2, 6);
        errorBehind("game 1 1 2 1;deck a1 a1;", "lives  006", 2, 7);
        errorBehind("game 1 1 2 1;deck a1 a1;", "lives 4294967297", 2, 6);
        errorBehind("game 1 1 2 1;deck a1 a1;", "lives 18446744073709551617", 2, 6);
        errorBehind("game 1 1 2 1;deck a1 a1;", "lives " + "9".repeat(500), 2, 6);
        right("game 1 1 2 1;deck a1 a1;lives " + "0".repeat(500) + "1", 2);
        errorBehind("game 1 1 2 1;deck a1 a1;", "tokens 1 2 3", 2, 9);
        errorBehind("game 1 1 2 1;deck a1 a1;", "color 1 1", 2, 6);
        errorBehind("game 1 1 2 1;deck a1 a1;", "shuffle 1000000", 2, 8);
        error("game 0 0 0 0", 2, 5, 0);
        error("game 4294967297 1 2 1;deck a1 a1", 2, 5, 0);
    }

    private static void wrongCards() {
        errorBehind("game 2 3 2 1;", "deck c1", 2, 5);
        errorBehind("game 2 3 2 1;", "deck  b1 z9", 2, 9);
        errorBehind("game 2 3 2 1;", "deck a4", 2, 5);
        errorBehind("game 2 3 2 1;", "deck a1 b0", 2, 8);
        errorBehind("game 2 3 2 1;", "deck a1b4", 2, 7);
        errorBehind("game 2 3 2 1;deck a1 a1;", "deck b4", 2, 5);
    }

    private static void longRanks() {
        errorBehind("game 2 5 2 1;", "deck a10", 2, 5);
        errorBehind("game 2 5 2 1;", "deck a11 a1", 2, 5);
        errorBehind("game 2 5 2 1;", "deck a1 a15", 2, 8);
        errorBehind("game 2 5 2 1;", "deck a4294967297", 2, 5);
        errorBehind("game 2 5 2 1;", "deck a1234x", 2, 5);
    }

    private static void fortyFirstCard() {
        right(FORTY, 40);
        errorBehind(FORTY, " a1", 3, 1);
        errorBehind(FORTY, "  d5 x", 3, 2);
        errorBehind(FORTY, "a1", 3, 0);
        errorBehind(FORTY + ";lives 3;", "deck a1", 3, 5);
    }

    private static void wrongFortyFirstCard() {
        errorBehind(FORTY, " a0", 2, 1);
        errorBehind(FORTY, " a6", 2, 1);
        errorBehind(FORTY, " e1", 2, 1);
        errorBehind(FORTY, " a11", 2, 1);
        errorBehind(FORTY + ";", "deck z1", 2, 5);
    }

    private static void fewCards() {
        right("game 1 1 4 5;deck" + " a1".repeat(20), 20);
        errorBehind("game 1 1 4 5;deck" + " a1".repeat(19), "", 4, 0);
        errorBehind("game 1 1 4 5;deck" + " a1".repeat(19), "  ", 4, 2);
        right("game 1 1 2 1;deck a1 a1", 2);
        errorBehind("game 1 1 2 1;deck a1", "", 4, 0);
        error("game 1 1 2 1", 4, 12, 0);
        error("game 1 1 2 1   ", 4, 15, 0);
    }

    private static void fewCardsInStatement() {
        error("game 1 1 2 1", 4, 12, 0);
        error("game 1 1 2 1;deck a1", 4, 20, 1);
        error("game 1 1 2 1;deck a1;lives 3;shuffle 1", 4, 38, 3);
    }

    private static void byteOrder() {
        HintTeam team = new HintTeam();
        team.append(0x67616d6520312031L);
        team.append(0x20322031L);
        team.append(0x3b6465636b206131L);
        team.append(0x6131L);
        due("load", team.load(), 2);
        team.append(0x656d616720312031L);
        due("load of emag", team.load(), -100);
        team.append(0x67616d65203120e9L);
        due("the byte of the sign", team.load(), -107);
    }

    private static void zeroBytes() {
        HintTeam team = new HintTeam();
        due("none", team.append(0), 0);
        due("the first byte alone", team.append(0x6700000000000000L), 1);
        due("a byte in between", team.append(0x0061000000000000L), 2);
        due("two bytes apart", team.append(0x6d00000000000065L), 4);
        due("the sign bit alone", team.append(Long.MIN_VALUE), 5);
        due("the byte that cannot stand there", team.load(), -104);
    }

    private static void lengths() {
        HintTeam team = new HintTeam();
        due("8 bytes", team.append(-1L), 8);
        due("none more", team.append(0), 8);
        due("1 byte more", team.append(1), 9);
        due("the greatest number", team.append(Long.MAX_VALUE), 17);
    }

    private static void fullBuffer() {
        HintTeam team = new HintTeam();
        for (int k = 1; k <= 74; k++) {
            due("append " + k, team.append(0x2020202020202020L), 8 * k);
        }
        due("600 of 600", team.append(0x2020202020202020L), 600);
        due("none more", team.append(0), 600);
        due("601 of 600", team.append(0x20), HintTeam.FULL);
        due("608 of 600", team.append(-1L), HintTeam.FULL);
        for (int shift = 0; shift < 64; shift++) {
            due("a byte of one bit, " + shift, team.append(1L << shift), HintTeam.FULL);
        }
        due("none more", team.append(0), 600);
        due("spaces alone", team.load(), -700);
        for (int k = 0; k < 74; k++) {
            team.append(0x2020202020202020L);
        }
        due("593", team.append(0x20), 593);
        due("601 of 600", team.append(-1L), HintTeam.FULL);
        due("none of them was taken", team.append(0x20202020202020L), 600);
    }

    private static void loadTakesNothingBack() {
        HintTeam team = of(PLAIN);
        team.discard(0);
        team.discard(0);
        due("before", team.count(10), 2);
        load(team, PLAIN);
        due("behind", team.count(10), 0);
        due("undo", team.undo(), HintTeam.NONE);
    }

    private static void beginsAnew() {
        HintTeam team = of(PLAIN + ";lives 1;rank 2 5");
        team.play(1);
        team.hint(0, 1, 3);
        team.hint(1, 1, 2);
        team.discard(1);
        team.play(0);
        team.discard(0);
        team.play(0);
        due("over", team.over(), 1);
        load(team, PLAIN);
        due("begun anew", seenGame(team), seenGame(of(PLAIN)));
    }

    private static void emptiedBuffer() {
        HintTeam team = new HintTeam();
        load(team, TWO);
        due("behind a right text", team.append(0), 0);
        for (String text : new String[] {"", "oops", "game 9 1 2 1", TWO.substring(0, 20), FORTY + "a1"}) {
            load(team, text);
            due("behind " + text, team.append(0), 0);
        }
        due("nothing to load", team.load(), -100);
    }

    private static void loadLeavesOthers() {
        HintTeam team = of(PLAIN);
        team.play(0);
        team.saveSnapshot(0);
        team.writeHand(1, true);
        load(team, TWO);
        due("output", output(team), "a2 b2");
        load(team, "oops");
        due("output behind an error", output(team), "a2 b2");
        due("snapshot", team.restoreSnapshot(0), 1);
        due("colors of the snapshot", team.count(0), 2);
        due("the other snapshot", team.restoreSnapshot(1), HintTeam.NONE);
    }

    private static void numbersOfCards() {
        right(TWO, 2);
        right(TWO + " a1", 3);
        right(FORTY, 40);
    }

    private static void positions() {
        HintTeam team = new HintTeam();
        due("position 0", load(team, "?"), -100);
        due("position 5", load(team, "game ?"), -105);
        due("the length of a text of 600 bytes", load(team, "game 1 1 2 1" + " ".repeat(588)), -700);
        due("the last byte of 600", load(team, TWO + " ".repeat(576) + "?"), -699);
    }

    private static void errorLeavesGame() {
        HintTeam team = of(PLAIN);
        team.play(0);
        team.hint(0, 1, 1);
        team.writeHand(0, false);
        team.saveSnapshot(1);
        String before = seenGame(team);
        for (String text : new String[] {"game 1 1 2 1", "game 3 1 2 1;lives 9", "", FORTY + "a1"}) {
            load(team, text);
            due("the game behind " + text, seenGame(team), before);
        }
        due("error", team.loadError(), 3);
        due("statement", team.loadStatement(), 1);
        due("buffer", team.append(0), 0);
        due("a turn can be taken back", team.undo(), 1);
        due("the snapshot stays", team.restoreSnapshot(1), 1);
    }

    private static void latestErrors() {
        HintTeam team = new HintTeam();
        load(team, "game 9");
        due("error 2", team.loadError(), 2);
        due("statement 0", team.loadStatement(), 0);
        load(team, "game 1 1 2 1;deck a1;lives 3");
        due("error 4", team.loadError(), 4);
        due("statement 2", team.loadStatement(), 2);
        load(team, TWO);
        due("no error", team.loadError(), 0);
        due("no statement", team.loadStatement(), HintTeam.NONE);
        load(team, TWO + ";oops");
        team.play(0);
        team.undo();
        team.saveSnapshot(0);
        team.restoreSnapshot(0);
        due("error 1", team.loadError(), 1);
        due("statement 2", team.loadStatement(), 2);
    }

    private static void kindsOfErrors() {
        error("?", 1, 0, 0);
        error("game 9", 2, 5, 0);
        errorBehind(FORTY, "a1", 3, 0);
        errorBehind("game 1 1 2 1", "", 4, 0);
    }

    private static void noErrors() {
        HintTeam team = new HintTeam();
        due("no call", team.loadError(), 0);
        due("no call", team.loadStatement(), HintTeam.NONE);
        load(team, TWO);
        due("no error", team.loadError(), 0);
        due("no error", team.loadStatement(), HintTeam.NONE);
    }

    private static void byteBehind() {
        error("game 1 1 2 1?", 1, 12, 0);
        error("game 1 1 2 1 ?", 1, 13, 0);
        error("game 1 1 2 1 deck a1 a1", 1, 13, 0);
        error("game 1 1 2 1;deck a1 a1 ?", 1, 24, 1);
        error("game 1 1 2 1;deck a1 a1;lives 3 3", 1, 32, 2);
    }

    private static void behindSemicolons() {
        error("?", 1, 0, 0);
        error("game 1 1 2 1;?", 1, 13, 1);
        error("game 1 1 2 1;  ?", 1, 15, 1);
        error("game 1 1 2 1;", 1, 13, 1);
        error(TWO + ";lives 3;", 1, 32, 3);
        error(TWO + ";lives 3;  oops", 1, 34, 3);
        error(TWO + ";lives 3".repeat(50) + ";lives 9", 2, 23 + 8 * 50 + 7, 52);
    }
}
