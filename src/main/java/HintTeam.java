import java.util.Arrays;

/** A cooperative card game in which players see all cards but their own ones and tell each other of them. */
public final class HintTeam {
    public static final int NONE = -1;
    public static final int FULL = -2;
    public static final int OVER = -3;
    public static final int NO_TOKEN = -4;
    public static final int NO_WORD = -5;
    public static final int HAS_CARDS = -6;
    public static final int NOT_SENSIBLE = -7;
    public static final int UNKNOWN = -8;
    public static final int NO_VALUE = -1000;

    private static final int MOST_BYTES = 600;
    private static final int MOST_BACK = 20;
    private static final int SNAPSHOTS = 2;
    private static final int MOST_FOLLOWED = 100;
    private static final int MOST_FORESEEN = 300;

    private static final int MOST_COLORS = 4;
    private static final int MOST_RANKS = 5;
    private static final int MOST_PLAYERS = 4;
    private static final int MOST_HAND = 5;
    private static final int MOST_CARDS = 40;
    private static final int KINDS = MOST_COLORS * MOST_RANKS;

    private static final int PLAY = 0;
    private static final int DISCARD = 1;
    private static final int HINT = 2;
    private static final int PASS = 3;
    private static final int LOST = 4;

    private final int[] input = new int[MOST_BYTES];
    private int inputLength;
    private final Reader reader = new Reader(input);
    private final Game game;
    private final Game[] past = new Game[MOST_BACK];
    private int pastCount;
    private int pastEnd;
    private final Game[] saved = new Game[SNAPSHOTS];
    private final boolean[] isSaved = new boolean[SNAPSHOTS];
    private final Game prediction;
    private final Mind mind = new Mind();
    private final Advisor advisor = new Advisor(mind);
    private final Search search = new Search();
    private final int[] output = new int[3 * MOST_HAND];
    private int outputLength;

    public HintTeam() {
        Rules none = new Rules();
        game = new Game(none);
        prediction = new Game(none);
        for (int k = 0; k < MOST_BACK; k++) {
            past[k] = new Game(none);
        }
        for (int k = 0; k < SNAPSHOTS; k++) {
            saved[k] = new Game(none);
        }
    }

    public int append(long bytes) {
        int more = 0;
        for (int shift = 56; shift >= 0; shift -= 8) {
            if ((bytes >>> shift & 255) != 0) {
                more++;
            }
        }
        if (inputLength + more > MOST_BYTES) {
            return FULL;
        }
        for (int shift = 56; shift >= 0; shift -= 8) {
            int next = (int) (bytes >>> shift & 255);
            if (next != 0 && inputLength < MOST_BYTES) {
                input[inputLength] = next;
                inputLength++;
            }
        }
        return inputLength;
    }

    public int load() {
        reader.readText(inputLength);
        inputLength = 0;
        if (reader.error != 0) {
            return -100 - reader.errorAt;
        }
        game.begin(reader.rules);
        pastCount = 0;
        return game.rules.cardCount;
    }

    public int loadError() {
        return reader.error;
    }

    public int loadStatement() {
        return reader.errorStatement;
    }

    public int count(int what) throws IllegalArgumentException {
        switch (what) {
            case 0: return game.rules.colors;
            case 1: return game.rules.ranks;
            case 2: return game.rules.players;
            case 3: return game.rules.handSize;
            case 4: return game.rules.cardCount - game.drawnCards;
            case 5: return game.tokens;
            case 6: return game.lives;
            case 7: return game.score();
            case 8: return game.turnsTaken;
            case 9: return game.turnsLeft;
            case 10: return pastCount;
            default: throw new IllegalArgumentException("no such number");
        }
    }

    public int turnOf() {
        return game.isEnded() ? NONE : game.turn;
    }

    public int over() {
        return game.ending();
    }

    public int pile(int color) throws IndexOutOfBoundsException {
        if (color < 0 || color >= game.rules.colors) {
            throw new IndexOutOfBoundsException("no such color");
        }
        return game.topOf(color);
    }

    public int hand(int player) throws IndexOutOfBoundsException {
        needPlayer(player);
        return game.sizeOf(player);
    }

    public int card(int player, int place) throws IndexOutOfBoundsException {
        return codeOf(game.kindOf(needCard(player, place)));
    }

    public int drawn(int index) {
        if (index < 0 || index >= game.rules.cardCount - game.drawnCards) {
            return NONE;
        }
        return codeOf(game.kindOf(game.drawnCards + index));
    }

    public int copies(int color, int rank, int what) throws IndexOutOfBoundsException, IllegalArgumentException {
        int kind = needKind(color, rank);
        switch (what) {
            case 0: return game.rules.copiesOf(kind);
            case 1: return game.inHeap(kind);
            case 2: return game.inHands(kind);
            case 3: return game.toBeDrawn(kind);
            default: throw new IllegalArgumentException("no such number");
        }
    }

    public boolean isUseless(int color, int rank) throws IndexOutOfBoundsException {
        return !game.isOfUse(needKind(color, rank));
    }

    public boolean isCritical(int color, int rank) throws IndexOutOfBoundsException {
        return game.isLastOne(needKind(color, rank));
    }

    public int colorsOf(int player, int place) throws IndexOutOfBoundsException {
        return colorsIn(game.kindsLeftFor(needCard(player, place)));
    }

    public int ranksOf(int player, int place) throws IndexOutOfBoundsException {
        return ranksIn(game.kindsLeftFor(needCard(player, place)));
    }

    public boolean isTouched(int player, int place) throws IndexOutOfBoundsException {
        return game.wasTouched(needCard(player, place));
    }

    public int thinks(int player, int place) throws IndexOutOfBoundsException {
        return Integer.bitCount(possibleKinds(player, needCard(player, place)));
    }

    public int thought(int player, int place, int index) throws IndexOutOfBoundsException {
        int possible = possibleKinds(player, needCard(player, place));
        int before = 0;
        for (int kind = 0; kind < KINDS; kind++) {
            if (isIn(kind, possible)) {
                if (before == index) {
                    return codeOf(kind);
                }
                before++;
            }
        }
        return NONE;
    }

    public int knows(int player, int place) throws IndexOutOfBoundsException {
        int possible = possibleKinds(player, needCard(player, place));
        if (areAllIn(possible, game.playableKinds())) {
            return 1;
        }
        return areAllIn(possible, game.uselessKinds()) ? 2 : 0;
    }

    public int wordsLeft(int word, int value) throws IllegalArgumentException {
        needWord(word, value);
        return game.timesLeft(word, value);
    }

    public int touches(int player, int word, int value) throws IndexOutOfBoundsException, IllegalArgumentException {
        needPlayer(player);
        needWord(word, value);
        return game.touchedPlaces(player, kindsOfWord(word, value));
    }

    public int tells(int player, int word, int value) throws IndexOutOfBoundsException, IllegalArgumentException {
        needPlayer(player);
        needWord(word, value);
        return mind.newlyPlayable(game, player, mind.unseenKinds(game, player), kindsOfWord(word, value));
    }

    public int play(int place) throws IndexOutOfBoundsException {
        if (game.isEnded()) {
            return OVER;
        }
        needCard(game.turn, place);
        remember();
        game.playCard(place);
        return game.score();
    }

    public int discard(int place) throws IndexOutOfBoundsException {
        if (game.isEnded()) {
            return OVER;
        }
        needCard(game.turn, place);
        remember();
        game.discardCard(place);
        return game.tokens;
    }

    public int hint(int player, int word, int value) throws IndexOutOfBoundsException, IllegalArgumentException {
        needPlayer(player);
        boolean ended = game.isEnded();
        if (!ended && player == game.turn) {
            throw new IndexOutOfBoundsException("nobody gives hints to oneself");
        }
        needWord(word, value);
        if (ended) {
            return OVER;
        }
        if (game.tokens <= 0) {
            return NO_TOKEN;
        }
        if (!game.canBeGiven(player, word, value)) {
            return NO_WORD;
        }
        remember();
        return game.giveHint(player, word, value);
    }

    public int pass() {
        if (game.isEnded()) {
            return OVER;
        }
        if (game.sizeOf(game.turn) > 0) {
            return HAS_CARDS;
        }
        remember();
        game.passTurn();
        return game.isEnded() ? NONE : game.turn;
    }

    public int advice(int what) throws IllegalArgumentException {
        if (what < 0 || what > 3) {
            throw new IllegalArgumentException("no such part of an advice");
        }
        if (game.isEnded()) {
            return OVER;
        }
        advisor.advise(game);
        switch (what) {
            case 0: return advisor.kind;
            case 1: return advisor.target;
            case 2: return advisor.word;
            default: return advisor.value;
        }
    }

    public int follow(int turns) throws IllegalArgumentException {
        if (turns < 1 || turns > MOST_FOLLOWED) {
            throw new IllegalArgumentException("1 to 100 turns can be followed");
        }
        int taken = 0;
        for (int k = 0; k < turns && !game.isEnded(); k++) {
            remember();
            advisor.advise(game);
            advisor.takeTurn(game);
            taken++;
        }
        return taken;
    }

    public int foreseen() {
        prediction.copyFrom(game);
        for (int k = 0; k < MOST_FORESEEN && !prediction.isEnded(); k++) {
            advisor.advise(prediction);
            advisor.takeTurn(prediction);
        }
        return prediction.score();
    }

    public int bound() {
        return game.reachableScore();
    }

    public int pace() {
        return game.score() + game.rules.cardCount - game.drawnCards + game.rules.players - game.reachableScore();
    }

    public int value() {
        search.survey(game);
        return search.tooMany ? UNKNOWN : search.best;
    }

    public int positions() {
        search.survey(game);
        return search.tooMany ? UNKNOWN : search.found;
    }

    public int valueBehind(int kind, int place) throws IllegalArgumentException {
        if (kind < PLAY || kind > PASS) {
            throw new IllegalArgumentException("no such kind of a move");
        }
        if (game.isEnded()) {
            return OVER;
        }
        if (!search.surveyBehind(game, kind, place)) {
            return NOT_SENSIBLE;
        }
        return search.tooMany ? UNKNOWN : search.best;
    }

    public int bestMove(int what) throws IllegalArgumentException {
        if (what != 0 && what != 1) {
            throw new IllegalArgumentException("no such part of a move");
        }
        if (game.isEnded()) {
            return OVER;
        }
        search.survey(game);
        if (search.tooMany) {
            return UNKNOWN;
        }
        search.findMove(game, search.best);
        return what == 0 ? search.moveKind : search.movePlace;
    }

    public int total(int what) throws IllegalArgumentException {
        if (what < 0 || what >= Game.TOTALS) {
            throw new IllegalArgumentException("no such total");
        }
        return game.totals[what];
    }

    public int logPart(int index, int what) throws IllegalArgumentException {
        if (what < 0 || what >= Game.LOG_PARTS) {
            throw new IllegalArgumentException("no such part of a turn");
        }
        return game.loggedPart(index, what);
    }

    public int undo() {
        if (pastCount <= 0) {
            return NONE;
        }
        pastEnd = pastEnd > 0 ? pastEnd - 1 : MOST_BACK - 1;
        pastCount--;
        game.copyFrom(past[pastEnd]);
        return pastCount;
    }

    public int writeHand(int player, boolean seen) throws IndexOutOfBoundsException {
        needPlayer(player);
        outputLength = 0;
        for (int place = 0; place < game.sizeOf(player); place++) {
            int card = game.cardAt(player, place);
            int kinds = seen ? 1 << game.kindOf(card) : game.kindsLeftFor(card);
            if (place > 0) {
                write(' ');
            }
            writeOnly('a', colorsIn(kinds));
            writeOnly('1', ranksIn(kinds));
        }
        return outputLength;
    }

    public int outputByte(int index) {
        if (index < 0 || index >= outputLength || index >= output.length) {
            return NONE;
        }
        return output[index];
    }

    public int saveSnapshot(int slot) throws IllegalArgumentException {
        needSlot(slot);
        saved[slot].copyFrom(game);
        isSaved[slot] = true;
        return game.score();
    }

    public int restoreSnapshot(int slot) throws IllegalArgumentException {
        needSlot(slot);
        if (!isSaved[slot]) {
            return NONE;
        }
        game.copyFrom(saved[slot]);
        pastCount = 0;
        return game.score();
    }

    private void needPlayer(int player) {
        if (player < 0 || player >= game.rules.players) {
            throw new IndexOutOfBoundsException("no such player");
        }
    }

    private int needCard(int player, int place) {
        needPlayer(player);
        int card = game.cardAt(player, place);
        if (card == NONE) {
            throw new IndexOutOfBoundsException("no card at the place");
        }
        return card;
    }

    private int needKind(int color, int rank) {
        if (color < 0 || color >= game.rules.colors || rank < 1 || rank > game.rules.ranks) {
            throw new IndexOutOfBoundsException("no such kind");
        }
        return color * MOST_RANKS + rank - 1;
    }

    private void needWord(int word, int value) {
        boolean isColor = word == 0 && value >= 0 && value < game.rules.colors;
        boolean isRank = word == 1 && value >= 1 && value <= game.rules.ranks;
        if (!isColor && !isRank) {
            throw new IllegalArgumentException("no such word");
        }
    }

    private void needSlot(int slot) {
        if (slot < 0 || slot >= SNAPSHOTS) {
            throw new IllegalArgumentException("no such snapshot");
        }
    }

    /** The kinds that a player thinks possible for a card of the own hand. */
    private int possibleKinds(int player, int card) {
        return mind.unseenKinds(game, player) & game.kindsLeftFor(card);
    }

    /** Keeps the game as it stands, so that the turn that follows can be taken back. */
    private void remember() {
        past[pastEnd].copyFrom(game);
        pastEnd = pastEnd + 1 < MOST_BACK ? pastEnd + 1 : 0;
        pastCount = Math.min(pastCount + 1, MOST_BACK);
    }

    /** Writes the sign of the only bit of a set, counted from a first sign on, or that there are more. */
    private void writeOnly(char first, int bits) {
        boolean isOne = Integer.bitCount(bits) == 1;
        write(isOne ? first + Integer.bitCount(bits - 1) : '?');
    }

    private void write(int sign) {
        if (outputLength < output.length) {
            output[outputLength] = sign;
            outputLength++;
        }
    }

    private static int codeOf(int kind) {
        return 10 * (kind / MOST_RANKS) + kind % MOST_RANKS + 1;
    }

    private static boolean isIn(int kind, int kinds) {
        return (kinds >> kind & 1) != 0;
    }

    /** Whether there are possible kinds, and all of them are among these. */
    private static boolean areAllIn(int possible, int kinds) {
        return possible != 0 && (possible & ~kinds) == 0;
    }

    /** The colors of a set of kinds, a bit each. */
    private static int colorsIn(int kinds) {
        int colors = 0;
        for (int color = 0; color < MOST_COLORS; color++) {
            if ((kinds & kindsOfWord(0, color)) != 0) {
                colors |= 1 << color;
            }
        }
        return colors;
    }

    /** The ranks of a set of kinds, a bit each, the lowest one for rank 1. */
    private static int ranksIn(int kinds) {
        int ranks = 0;
        for (int rank = 1; rank <= MOST_RANKS; rank++) {
            if ((kinds & kindsOfWord(1, rank)) != 0) {
                ranks |= 1 << (rank - 1);
            }
        }
        return ranks;
    }

    /** The set of the kinds that have a word's color or rank. */
    private static int kindsOfWord(int word, int value) {
        return word == 0 ? 0x1f << (value * MOST_RANKS) : 0x08421 << (value - 1);
    }

    /** What a description tells of a game. It never changes once it is read, so that games can share it. */
    private static final class Rules {
        static final int WORDS = MOST_COLORS + MOST_RANKS;

        int colors;
        int ranks;
        int players;
        int handSize;
        int mostTokens = 8;
        int startTokens = 8;
        int startLives = 3;
        int cardCount;
        final int[] kinds = new int[MOST_CARDS];
        final int[] copies = new int[KINDS];
        final int[] times = new int[WORDS];

        Rules() {
            Arrays.fill(times, 99);
        }

        void addCard(int kind) {
            if (cardCount < MOST_CARDS && kind >= 0 && kind < KINDS) {
                kinds[cardCount] = kind;
                copies[kind]++;
                cardCount++;
            }
        }

        int copiesOf(int kind) {
            return kind >= 0 && kind < KINDS ? copies[kind] : 0;
        }

        void exchangeCards(int seed) {
            long state = seed;
            for (int k = cardCount - 1; k >= 1; k--) {
                state = (state * 1103515245L + 12345L) % 2147483648L;
                int other = (int) (state / 65536L % (k + 1));
                int kept = kinds[k];
                kinds[k] = kinds[other];
                kinds[other] = kept;
            }
        }

        /** The set of all kinds that there are by the numbers of colors and ranks. */
        int allKinds() {
            int all = 0;
            for (int color = 0; color < colors; color++) {
                all |= ((1 << ranks) - 1) << (color * MOST_RANKS);
            }
            return all;
        }

        /** Where the times of a word stand, or NONE. */
        static int indexOfWord(int word, int value) {
            if (word == 0) {
                return value >= 0 && value < MOST_COLORS ? value : NONE;
            }
            return value >= 1 && value <= MOST_RANKS ? MOST_COLORS + value - 1 : NONE;
        }
    }

    /** Reads descriptions. */
    private static final class Reader {
        private static final int WRONG_PLACE = 1;
        private static final int WRONG_RANGE = 2;
        private static final int TOO_MANY = 3;
        private static final int TOO_FEW = 4;
        /** More than any number may be, and far from the end of the ints. */
        private static final int HUGE = 10000000;

        Rules rules = new Rules();
        int error;
        int errorAt;
        int errorStatement = NONE;
        private final int[] text;
        private int length;
        private int at;
        private int statement;
        private int seed;

        Reader(int[] text) {
            this.text = text;
        }

        /** Reads the first bytes of the text; the rules are of use only if there is no error then. */
        void readText(int bytes) {
            rules = new Rules();
            error = 0;
            errorAt = 0;
            errorStatement = NONE;
            length = Math.min(bytes, text.length);
            at = 0;
            seed = NONE;
            for (statement = 0; statement <= length; statement++) {
                readStatement();
                if (error != 0 || at >= length) {
                    break;
                }
                at++;
            }
            if (error == 0 && rules.cardCount < rules.players * rules.handSize) {
                fail(TOO_FEW, length);
            }
            if (error == 0 && seed != NONE) {
                rules.exchangeCards(seed);
            }
        }

        /** Reads a statement up to its semicolon or the end of the text. */
        private void readStatement() {
            skipSpaces();
            int start = at;
            skipLetters();
            if (isWord("game", start) && statement == 0) {
                readGame();
            } else if (statement == 0) {
                fail(WRONG_PLACE, start);
            } else if (isWord("deck", start)) {
                readDeck();
            } else if (isWord("tokens", start)) {
                readTokens();
            } else if (isWord("lives", start)) {
                rules.startLives = readNumber(1, 5);
            } else if (isWord("color", start)) {
                readTimes(0, 0, rules.colors - 1);
            } else if (isWord("rank", start)) {
                readTimes(1, 1, rules.ranks);
            } else if (isWord("shuffle", start)) {
                seed = readNumber(0, 999999);
            } else {
                fail(WRONG_PLACE, start);
            }
            skipSpaces();
            if (error == 0 && at < length && signAt(at) != ';') {
                fail(WRONG_PLACE, at);
            }
        }

        private void readGame() {
            rules.colors = readNumber(1, MOST_COLORS);
            rules.ranks = readNumber(1, MOST_RANKS);
            rules.players = readNumber(2, MOST_PLAYERS);
            rules.handSize = readNumber(1, MOST_HAND);
        }

        private void readTokens() {
            rules.mostTokens = readNumber(1, 9);
            rules.startTokens = readNumber(0, rules.mostTokens);
        }

        private void readTimes(int word, int lowest, int highest) {
            int value = readNumber(lowest, highest);
            int times = readNumber(0, 99);
            int index = Rules.indexOfWord(word, value);
            if (error == 0 && index != NONE) {
                rules.times[index] = times;
            }
        }

        private void readDeck() {
            skipSpaces();
            readCard();
            skipSpaces();
            for (int k = 0; k < length && error == 0 && isLetter(signAt(at)); k++) {
                readCard();
                skipSpaces();
            }
        }

        private void readCard() {
            int start = at;
            if (!isLetter(signAt(start)) || !isDigit(signAt(start + 1))) {
                fail(WRONG_PLACE, start);
                return;
            }
            int color = signAt(start) - 'a';
            int rank = signAt(start + 1) - '0';
            at++;
            skipDigits();
            boolean isOneDigit = at == start + 2;
            if (color >= rules.colors || !isOneDigit || rank < 1 || rank > rules.ranks) {
                fail(WRONG_RANGE, start);
            } else if (rules.cardCount >= MOST_CARDS) {
                fail(TOO_MANY, start);
            } else {
                rules.addCard(color * MOST_RANKS + rank - 1);
            }
        }

        /** Reads a number; behind an error it reads none and answers the lowest one. */
        private int readNumber(int lowest, int highest) {
            if (error != 0) {
                return lowest;
            }
            skipSpaces();
            int start = at;
            skipDigits();
            if (at == start) {
                fail(WRONG_PLACE, start);
                return lowest;
            }
            int number = 0;
            for (int k = start; k < at; k++) {
                number = Math.min(10 * number + signAt(k) - '0', HUGE);
            }
            if (number < lowest || number > highest) {
                fail(WRONG_RANGE, start);
                return lowest;
            }
            return number;
        }

        private void fail(int kind, int position) {
            error = kind;
            errorAt = position;
            errorStatement = statement;
        }

        private boolean isWord(String word, int start) {
            if (at - start != word.length()) {
                return false;
            }
            for (int k = 0; k < word.length(); k++) {
                if (signAt(start + k) != word.charAt(k)) {
                    return false;
                }
            }
            return true;
        }

        private void skipSpaces() {
            for (int k = at; k < length && signAt(k) == ' '; k++) {
                at++;
            }
        }

        private void skipLetters() {
            for (int k = at; k < length && isLetter(signAt(k)); k++) {
                at++;
            }
        }

        private void skipDigits() {
            for (int k = at; k < length && isDigit(signAt(k)); k++) {
                at++;
            }
        }

        private static boolean isLetter(int sign) {
            return sign >= 'a' && sign <= 'z';
        }

        private static boolean isDigit(int sign) {
            return sign >= '0' && sign <= '9';
        }

        /** The byte at an index, NONE where the text has none. */
        private int signAt(int index) {
            return index >= 0 && index < length && index < text.length ? text[index] : NONE;
        }
    }

    /** A game as it stands. Cards are told by their places in the deck, sets of kinds by a bit for each kind. */
    private static final class Game {
        static final int TOTALS = 7;
        static final int LOG_PARTS = 4;
        private static final int LOG_TURNS = 30;
        private static final int PLAYED_CARDS = 0;
        private static final int LOST_LIVES = 1;
        private static final int DISCARDED_CARDS = 2;
        private static final int GIVEN_HINTS = 3;
        private static final int RETURNED_TOKENS = 4;
        private static final int TOUCHED_CARDS = 5;
        private static final int LOST_KINDS = 6;

        Rules rules;
        int drawnCards;
        int tokens;
        int lives;
        int turn;
        int turnsTaken;
        int turnsLeft;
        final int[] totals = new int[TOTALS];
        private long touchedCards;
        private final int[] hands = new int[MOST_PLAYERS * MOST_HAND];
        private final int[] handSizes = new int[MOST_PLAYERS];
        private final int[] tops = new int[MOST_COLORS];
        private final int[] heap = new int[KINDS];
        private final int[] times = new int[Rules.WORDS];
        private final int[] kindsLeft = new int[MOST_CARDS];
        private final int[] log = new int[LOG_TURNS * LOG_PARTS];

        Game(Rules rules) {
            this.rules = rules;
        }

        void copyFrom(Game other) {
            rules = other.rules;
            drawnCards = other.drawnCards;
            tokens = other.tokens;
            lives = other.lives;
            turn = other.turn;
            turnsTaken = other.turnsTaken;
            turnsLeft = other.turnsLeft;
            touchedCards = other.touchedCards;
            System.arraycopy(other.totals, 0, totals, 0, TOTALS);
            System.arraycopy(other.hands, 0, hands, 0, MOST_PLAYERS * MOST_HAND);
            System.arraycopy(other.handSizes, 0, handSizes, 0, MOST_PLAYERS);
            System.arraycopy(other.tops, 0, tops, 0, MOST_COLORS);
            System.arraycopy(other.heap, 0, heap, 0, KINDS);
            System.arraycopy(other.times, 0, times, 0, Rules.WORDS);
            System.arraycopy(other.kindsLeft, 0, kindsLeft, 0, MOST_CARDS);
            System.arraycopy(other.log, 0, log, 0, LOG_TURNS * LOG_PARTS);
        }

        void begin(Rules newRules) {
            rules = newRules;
            drawnCards = 0;
            tokens = rules.startTokens;
            lives = rules.startLives;
            turn = 0;
            turnsTaken = 0;
            touchedCards = 0;
            Arrays.fill(totals, 0);
            Arrays.fill(handSizes, 0);
            Arrays.fill(tops, 0);
            Arrays.fill(heap, 0);
            Arrays.fill(kindsLeft, rules.allKinds());
            System.arraycopy(rules.times, 0, times, 0, Rules.WORDS);
            for (int player = 0; player < rules.players; player++) {
                for (int place = 0; place < rules.handSize; place++) {
                    drawCard(player);
                }
            }
            turnsLeft = drawnCards >= rules.cardCount ? rules.players : NONE;
        }

        /** Why the game is over, 0 if it is not. Before the first load there is nothing but a last round over. */
        int ending() {
            if (rules.players == 0) {
                return 3;
            }
            if (lives <= 0) {
                return 1;
            }
            if (score() >= rules.colors * rules.ranks) {
                return 2;
            }
            return turnsLeft == 0 ? 3 : 0;
        }

        boolean isEnded() {
            return ending() != 0;
        }

        int score() {
            int sum = 0;
            for (int color = 0; color < MOST_COLORS; color++) {
                sum += tops[color];
            }
            return sum;
        }

        int topOf(int color) {
            return color >= 0 && color < MOST_COLORS ? tops[color] : 0;
        }

        int sizeOf(int player) {
            return player >= 0 && player < MOST_PLAYERS ? handSizes[player] : 0;
        }

        /** The card at a place of a hand, or NONE. */
        int cardAt(int player, int place) {
            if (player < 0 || player >= MOST_PLAYERS || place < 0 || place >= handSizes[player]) {
                return NONE;
            }
            int index = player * MOST_HAND + place;
            return index < hands.length ? hands[index] : NONE;
        }

        int kindOf(int card) {
            return card >= 0 && card < MOST_CARDS ? rules.kinds[card] : 0;
        }

        int kindsLeftFor(int card) {
            return card >= 0 && card < MOST_CARDS ? kindsLeft[card] : 0;
        }

        boolean wasTouched(int card) {
            return (touchedCards >> card & 1) != 0;
        }

        int timesLeft(int word, int value) {
            int index = Rules.indexOfWord(word, value);
            return index != NONE ? times[index] : 0;
        }

        int inHeap(int kind) {
            return kind >= 0 && kind < KINDS ? heap[kind] : 0;
        }

        int inHands(int kind) {
            int sum = 0;
            for (int player = 0; player < rules.players; player++) {
                for (int place = 0; place < sizeOf(player); place++) {
                    if (kindOf(cardAt(player, place)) == kind) {
                        sum++;
                    }
                }
            }
            return sum;
        }

        int toBeDrawn(int kind) {
            int sum = 0;
            for (int card = drawnCards; card < rules.cardCount; card++) {
                if (kindOf(card) == kind) {
                    sum++;
                }
            }
            return sum;
        }

        /** How many cards of a kind are not in the heap. */
        private int notInHeap(int kind) {
            return kind >= 0 && kind < KINDS ? rules.copies[kind] - heap[kind] : 0;
        }

        boolean canGoOnPile(int kind) {
            return topOf(kind / MOST_RANKS) == kind % MOST_RANKS;
        }

        boolean isOnPile(int kind) {
            return topOf(kind / MOST_RANKS) > kind % MOST_RANKS;
        }

        /** Whether a card of the kind can still come onto its pile, now or later. */
        boolean isOfUse(int kind) {
            int below = kind % MOST_RANKS;
            int color = kind / MOST_RANKS;
            return below >= topOf(color) && below < reachableTop(color);
        }

        /** Whether the heap leaves but one card of a kind that is of use. */
        boolean isLastOne(int kind) {
            return notInHeap(kind) == 1 && isOfUse(kind);
        }

        /** The rank that a color's pile can still come to. */
        private int reachableTop(int color) {
            if (color < 0 || color >= MOST_COLORS) {
                return 0;
            }
            int rank = tops[color];
            int first = color * MOST_RANKS;
            for (int k = first + rank; k < first + rules.ranks && k < KINDS && heap[k] < rules.copies[k]; k++) {
                rank++;
            }
            return rank;
        }

        int reachableScore() {
            int sum = 0;
            for (int color = 0; color < rules.colors; color++) {
                sum += reachableTop(color);
            }
            return sum;
        }

        int playableKinds() {
            int kinds = 0;
            for (int color = 0; color < rules.colors; color++) {
                kinds |= (1 << topOf(color) & 0x1f) << (color * MOST_RANKS);
            }
            return kinds;
        }

        /** All kinds but those from above a pile up to the rank that it can come to. */
        int uselessKinds() {
            int kinds = 0;
            for (int color = 0; color < rules.colors; color++) {
                int useful = (1 << reachableTop(color)) - (1 << topOf(color));
                kinds |= (0x1f & ~useful) << (color * MOST_RANKS);
            }
            return kinds;
        }

        /** The places of the cards of a hand that have one of these kinds, a bit each. */
        int touchedPlaces(int player, int kinds) {
            int places = 0;
            for (int place = 0; place < sizeOf(player); place++) {
                if (isIn(kindOf(cardAt(player, place)), kinds)) {
                    places |= 1 << place;
                }
            }
            return places;
        }

        boolean canBeGiven(int player, int word, int value) {
            return tokens > 0 && player != turn && timesLeft(word, value) > 0
                    && touchedPlaces(player, kindsOfWord(word, value)) != 0;
        }

        void playCard(int place) {
            int kind = kindOf(takeCard(place));
            if (canGoOnPile(kind)) {
                tops[kind / MOST_RANKS]++;
                totals[PLAYED_CARDS]++;
                if (kind % MOST_RANKS + 1 == rules.ranks) {
                    returnToken();
                }
                writeLog(PLAY, codeOf(kind), NONE);
            } else {
                putOnHeap(kind);
                lives--;
                totals[LOST_LIVES]++;
                writeLog(LOST, codeOf(kind), NONE);
            }
            drawCard(turn);
            endTurn();
        }

        void discardCard(int place) {
            int kind = kindOf(takeCard(place));
            putOnHeap(kind);
            returnToken();
            totals[DISCARDED_CARDS]++;
            writeLog(DISCARD, codeOf(kind), NONE);
            drawCard(turn);
            endTurn();
        }

        /** Gives a hint that can be given; answers how many cards it touches. */
        int giveHint(int player, int word, int value) {
            int kinds = kindsOfWord(word, value);
            int touched = 0;
            for (int place = 0; place < sizeOf(player); place++) {
                if (learn(cardAt(player, place), kinds)) {
                    touched++;
                }
            }
            int index = Rules.indexOfWord(word, value);
            if (index != NONE) {
                times[index]--;
            }
            tokens--;
            totals[GIVEN_HINTS]++;
            totals[TOUCHED_CARDS] += touched;
            writeLog(HINT, player, 10 * word + value);
            endTurn();
            return touched;
        }

        void passTurn() {
            writeLog(PASS, NONE, NONE);
            endTurn();
        }

        /** Keeps of a card whether it has one of these kinds; tells whether it has. */
        private boolean learn(int card, int kinds) {
            if (card < 0 || card >= MOST_CARDS) {
                return false;
            }
            boolean isTouching = isIn(kindOf(card), kinds);
            if (isTouching) {
                touchedCards |= 1L << card;
            }
            kindsLeft[card] &= isTouching ? kinds : ~kinds;
            return isTouching;
        }

        /** Takes a card out of the hand of the player whose turn it is. */
        private int takeCard(int place) {
            int card = cardAt(turn, place);
            if (card == NONE) {
                return NONE;
            }
            for (int k = place; k + 1 < handSizes[turn]; k++) {
                hands[turn * MOST_HAND + k] = hands[turn * MOST_HAND + k + 1];
            }
            handSizes[turn]--;
            return card;
        }

        private void drawCard(int player) {
            int size = sizeOf(player);
            if (drawnCards < rules.cardCount && player < MOST_PLAYERS && size < MOST_HAND) {
                hands[player * MOST_HAND + size] = drawnCards;
                handSizes[player]++;
                drawnCards++;
            }
        }

        private void putOnHeap(int kind) {
            if (isLastOne(kind)) {
                totals[LOST_KINDS]++;
            }
            heap[kind]++;
        }

        private void returnToken() {
            if (tokens < rules.mostTokens) {
                tokens++;
                totals[RETURNED_TOKENS]++;
            }
        }

        private void endTurn() {
            if (turnsLeft > 0) {
                turnsLeft--;
            } else if (turnsLeft == NONE && drawnCards >= rules.cardCount) {
                turnsLeft = rules.players;
            }
            turn = turn + 1 < rules.players ? turn + 1 : 0;
            turnsTaken++;
        }

        private void writeLog(int kind, int what, int word) {
            int first = turnsTaken % LOG_TURNS * LOG_PARTS;
            log[first] = turn;
            log[first + 1] = kind;
            log[first + 2] = what;
            log[first + 3] = word;
        }

        int loggedPart(int index, int what) {
            if (index < 0 || index >= LOG_TURNS || index >= turnsTaken) {
                return NO_VALUE;
            }
            return log[(turnsTaken - 1 - index) % LOG_TURNS * LOG_PARTS + what];
        }
    }

    /** What players think of their own cards. */
    private static final class Mind {
        private final int[] unseen = new int[KINDS];

        /** The kinds of which a player does not see all cards. */
        int unseenKinds(Game game, int player) {
            for (int kind = 0; kind < KINDS; kind++) {
                unseen[kind] = game.rules.copiesOf(kind) - game.inHeap(kind) - (game.isOnPile(kind) ? 1 : 0);
            }
            for (int other = 0; other < game.rules.players; other++) {
                for (int place = 0; other != player && place < game.sizeOf(other); place++) {
                    int kind = game.kindOf(game.cardAt(other, place));
                    unseen[kind]--;
                }
            }
            int kinds = 0;
            for (int kind = 0; kind < KINDS; kind++) {
                if (unseen[kind] > 0) {
                    kinds |= 1 << kind;
                }
            }
            return kinds;
        }

        /**
         * How many cards of a hand its player, who does not see all cards of the unseen kinds, would newly
         * know to be playable behind a hint of the hinted kinds.
         */
        int newlyPlayable(Game game, int player, int unseenKinds, int hinted) {
            int playable = game.playableKinds();
            int sum = 0;
            for (int place = 0; place < game.sizeOf(player); place++) {
                int card = game.cardAt(player, place);
                int before = unseenKinds & game.kindsLeftFor(card);
                int behind = before & (isIn(game.kindOf(card), hinted) ? hinted : ~hinted);
                if (areAllIn(behind, playable) && !areAllIn(before, playable)) {
                    sum++;
                }
            }
            return sum;
        }
    }

    /** Finds what the player whose turn it is should do. */
    private static final class Advisor {
        int kind;
        int target;
        int word;
        int value;
        private final Mind mind;
        /** How much the hint that was chosen tells; NONE if no hint can be given. */
        private int told;

        Advisor(Mind mind) {
            this.mind = mind;
        }

        /** Takes the turn that was advised for this game. */
        void takeTurn(Game game) {
            switch (kind) {
                case PLAY: game.playCard(target); break;
                case DISCARD: game.discardCard(target); break;
                case HINT: game.giveHint(target, word, value); break;
                default: game.passTurn(); break;
            }
        }

        void advise(Game game) {
            int place = firstKnown(game, game.playableKinds());
            if (place != NONE) {
                choose(PLAY, place);
                return;
            }
            chooseHint(game);
            if (told >= 1) {
                return;
            }
            place = firstKnown(game, game.uselessKinds());
            if (place == NONE) {
                place = firstUntouched(game);
            }
            if (place != NONE) {
                choose(DISCARD, place);
            } else if (told == NONE && game.sizeOf(game.turn) > 0) {
                choose(DISCARD, 0);
            } else if (told == NONE) {
                choose(PASS, NONE);
            }
        }

        private void choose(int newKind, int newTarget) {
            kind = newKind;
            target = newTarget;
            word = NONE;
            value = NONE;
        }

        /** Chooses the first one of the hints that tell most, even if they tell nothing. */
        private void chooseHint(Game game) {
            told = NONE;
            int player = game.turn;
            for (int k = 1; k < game.rules.players; k++) {
                player = player + 1 < game.rules.players ? player + 1 : 0;
                int unseenKinds = mind.unseenKinds(game, player);
                for (int color = 0; color < game.rules.colors; color++) {
                    weighHint(game, player, unseenKinds, 0, color);
                }
                for (int rank = 1; rank <= game.rules.ranks; rank++) {
                    weighHint(game, player, unseenKinds, 1, rank);
                }
            }
        }

        private void weighHint(Game game, int player, int unseenKinds, int newWord, int newValue) {
            if (!game.canBeGiven(player, newWord, newValue)) {
                return;
            }
            int more = mind.newlyPlayable(game, player, unseenKinds, kindsOfWord(newWord, newValue));
            if (more > told) {
                told = more;
                kind = HINT;
                target = player;
                word = newWord;
                value = newValue;
            }
        }

        /** The smallest place of a card of which its player knows that all its kinds are among these, or NONE. */
        private int firstKnown(Game game, int kinds) {
            int unseenKinds = mind.unseenKinds(game, game.turn);
            for (int place = 0; place < game.sizeOf(game.turn); place++) {
                int card = game.cardAt(game.turn, place);
                if (areAllIn(unseenKinds & game.kindsLeftFor(card), kinds)) {
                    return place;
                }
            }
            return NONE;
        }

        private int firstUntouched(Game game) {
            for (int place = 0; place < game.sizeOf(game.turn); place++) {
                if (!game.wasTouched(game.cardAt(game.turn, place))) {
                    return place;
                }
            }
            return NONE;
        }
    }

    /** A position as it is told when all cards are seen; hands are sets of cards, a bit each. */
    private static final class Position {
        Rules rules;
        final long[] hands = new long[MOST_PLAYERS];
        private final int[] tops = new int[MOST_COLORS];
        private int tokens;
        private int drawnCards;
        private int turn;
        private int turnsLeft;

        Position(Rules rules) {
            this.rules = rules;
        }

        /** Takes all but the rules. */
        void copyFrom(Position other) {
            tokens = other.tokens;
            drawnCards = other.drawnCards;
            turn = other.turn;
            turnsLeft = other.turnsLeft;
            System.arraycopy(other.hands, 0, hands, 0, MOST_PLAYERS);
            System.arraycopy(other.tops, 0, tops, 0, MOST_COLORS);
        }

        void takeFrom(Game game) {
            tokens = game.tokens;
            drawnCards = game.drawnCards;
            turn = game.turn;
            turnsLeft = game.turnsLeft;
            for (int color = 0; color < MOST_COLORS; color++) {
                tops[color] = game.topOf(color);
            }
            for (int player = 0; player < MOST_PLAYERS; player++) {
                hands[player] = 0;
                for (int place = 0; place < game.sizeOf(player); place++) {
                    hands[player] |= 1L << game.cardAt(player, place);
                }
            }
        }

        /** All but the hands in one number: 12 bits for the piles, then 4, 6, 2 and 3 bits. */
        int packed() {
            int bits = 0;
            for (int color = 0; color < MOST_COLORS; color++) {
                bits = bits << 3 | tops[color];
            }
            return (((bits << 4 | tokens) << 6 | drawnCards) << 2 | turn) << 3 | (turnsLeft + 1);
        }

        void unpack(int bits) {
            turnsLeft = (bits & 7) - 1;
            turn = bits >> 3 & 3;
            drawnCards = bits >> 5 & 63;
            tokens = bits >> 11 & 15;
            for (int color = 0; color < MOST_COLORS; color++) {
                tops[color] = bits >> (24 - 3 * color) & 7;
            }
        }

        int points() {
            return tops[0] + tops[1] + tops[2] + tops[3];
        }

        /** Whether no move is there any more. Lives are never lost here. */
        boolean isLast() {
            return turnsLeft == 0 || points() >= rules.colors * rules.ranks;
        }

        /** The hand of the player whose turn it is. */
        long cardsInTurn() {
            return hands[turn];
        }

        private boolean holds(int card) {
            return card >= 0 && card < MOST_CARDS && (hands[turn] >> card & 1) != 0;
        }

        boolean isSensible(int kind, int card) {
            switch (kind) {
                case PLAY: return holds(card) && isNext(rules.kinds[card]);
                case DISCARD: return holds(card);
                case HINT: return tokens > 0;
                default: return hands[turn] == 0;
            }
        }

        private boolean isNext(int kind) {
            return tops[kind / MOST_RANKS] == kind % MOST_RANKS;
        }

        /** Makes a sensible move. */
        void move(int kind, int card) {
            if (kind == PLAY) {
                putOnPile(rules.kinds[card]);
                exchangeCard(card);
            } else if (kind == DISCARD) {
                tokens = Math.min(tokens + 1, rules.mostTokens);
                exchangeCard(card);
            } else if (kind == HINT) {
                tokens--;
            }
            if (turnsLeft > 0) {
                turnsLeft--;
            } else if (turnsLeft == NONE && drawnCards >= rules.cardCount) {
                turnsLeft = rules.players;
            }
            turn = turn + 1 < rules.players ? turn + 1 : 0;
        }

        private void putOnPile(int kind) {
            int color = kind / MOST_RANKS;
            tops[color]++;
            if (tops[color] == rules.ranks) {
                tokens = Math.min(tokens + 1, rules.mostTokens);
            }
        }

        private void exchangeCard(int card) {
            hands[turn] &= ~(1L << card);
            if (drawnCards < rules.cardCount) {
                hands[turn] |= 1L << drawnCards;
                drawnCards++;
            }
        }
    }

    /** Finds all positions that can come, as long as they are not too many. */
    private static final class Search {
        private static final int MOST_POSITIONS = 4000;
        /** More than any score. */
        private static final int NO_TARGET = 1000;
        private static final int TABLE_BITS = 13;
        private static final int TABLE = 1 << TABLE_BITS;

        boolean tooMany;
        int best;
        int found;
        int moveKind;
        int movePlace;
        private final long[] hands = new long[MOST_POSITIONS * MOST_PLAYERS];
        private final int[] rests = new int[MOST_POSITIONS];
        /** For each hash the index of a position, from 1 on; 0 where there is none. */
        private final int[] table = new int[TABLE];
        private final Position here;
        private final Position next;

        Search() {
            Rules none = new Rules();
            here = new Position(none);
            next = new Position(none);
        }

        /** Finds the positions that can come from the present one on. */
        void survey(Game game) {
            clear(game.rules);
            next.takeFrom(game);
            add();
            if (game.isEnded()) {
                best = game.score();
            } else {
                spread(0, NO_TARGET);
            }
        }

        /** Finds the positions that can come behind a move; false if it is no sensible one. */
        boolean surveyBehind(Game game, int kind, int place) {
            clear(game.rules);
            if (!step(game, kind, place)) {
                return false;
            }
            add();
            spread(0, NO_TARGET);
            return true;
        }

        /**
         * Finds the first move behind which a score comes that is known to come. Positions that an earlier
         * move has led to need no second look: the score does not come behind them.
         */
        void findMove(Game game, int target) {
            clear(game.rules);
            for (int kind = PLAY; kind <= PASS; kind++) {
                boolean isOfCard = kind == PLAY || kind == DISCARD;
                int places = isOfCard ? game.sizeOf(game.turn) : 1;
                for (int place = 0; place < places; place++) {
                    if (step(game, kind, place) && reaches(target)) {
                        moveKind = kind;
                        movePlace = isOfCard ? place : NONE;
                        return;
                    }
                }
            }
        }

        private boolean reaches(int target) {
            int from = found;
            add();
            spread(from, target);
            return best >= target;
        }

        private void clear(Rules rules) {
            here.rules = rules;
            next.rules = rules;
            Arrays.fill(table, 0);
            tooMany = false;
            best = NONE;
            found = 0;
            moveKind = NONE;
            movePlace = NONE;
        }

        /** Goes from the present position to the one behind a move; false if it is no sensible one. */
        private boolean step(Game game, int kind, int place) {
            int card = game.cardAt(game.turn, place);
            next.takeFrom(game);
            if (!next.isSensible(kind, card)) {
                return false;
            }
            next.move(kind, card);
            return true;
        }

        /** Adds all that comes from the positions of an index and more, until a score has come. */
        private void spread(int from, int target) {
            for (int at = from; at < found && at < MOST_POSITIONS && !tooMany && best < target; at++) {
                here.unpack(rests[at]);
                System.arraycopy(hands, at * MOST_PLAYERS, here.hands, 0, MOST_PLAYERS);
                best = Math.max(best, here.points());
                if (here.isLast()) {
                    continue;
                }
                long cards = here.cardsInTurn();
                for (int k = 0; k < MOST_HAND && cards != 0; k++) {
                    int card = Long.bitCount((cards & -cards) - 1);
                    addBehind(PLAY, card);
                    addBehind(DISCARD, card);
                    cards &= cards - 1;
                }
                addBehind(HINT, NONE);
                addBehind(PASS, NONE);
            }
        }

        private void addBehind(int kind, int card) {
            if (here.isSensible(kind, card)) {
                next.copyFrom(here);
                next.move(kind, card);
                add();
            }
        }

        /** Adds the next position unless it is there already or there would be too many. */
        private void add() {
            int rest = next.packed();
            int slot = slotOf(rest);
            for (int k = 0; k < TABLE; k++) {
                if (table[slot] == 0) {
                    store(slot, rest);
                    return;
                }
                if (isStored(table[slot] - 1, rest)) {
                    return;
                }
                slot = slot + 1 < TABLE ? slot + 1 : 0;
            }
        }

        private int slotOf(int rest) {
            long mixed = rest;
            for (int player = 0; player < MOST_PLAYERS; player++) {
                mixed = (mixed ^ mixed >>> 29) * 0x9E3779B97F4A7C15L + next.hands[player];
            }
            mixed = (mixed ^ mixed >>> 32) * 0x9E3779B97F4A7C15L;
            return (int) (mixed >>> (64 - TABLE_BITS));
        }

        private boolean isStored(int at, int rest) {
            if (at < 0 || at >= MOST_POSITIONS || rests[at] != rest) {
                return false;
            }
            for (int player = 0; player < MOST_PLAYERS; player++) {
                if (hands[at * MOST_PLAYERS + player] != next.hands[player]) {
                    return false;
                }
            }
            return true;
        }

        private void store(int slot, int rest) {
            if (found >= MOST_POSITIONS) {
                tooMany = true;
                return;
            }
            rests[found] = rest;
            System.arraycopy(next.hands, 0, hands, found * MOST_PLAYERS, MOST_PLAYERS);
            found++;
            table[slot] = found;
        }
    }
}
