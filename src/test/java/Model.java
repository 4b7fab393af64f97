import java.util.ArrayDeque;
import java.util.ArrayList;
import java.util.Arrays;
import java.util.Collections;
import java.util.HashSet;
import java.util.LinkedHashSet;
import java.util.List;
import java.util.Set;
import java.util.TreeSet;

/**
 * The document once more, written as plainly as the Java library allows and without a thought of speed.
 * ModelTest compares it with HintTeam, call by call.
 */
final class Model {
    private static final int NONE = -1;
    private static final int OVER = -3;

    private static final class Card {
        int id;
        int color;
        int rank;
        Set<Integer> colors = new TreeSet<>();
        Set<Integer> ranks = new TreeSet<>();
        boolean touched;

        int code() {
            return 10 * color + rank;
        }

        boolean is(int c, int r) {
            return color == c && rank == r;
        }

        Card copy() {
            Card other = new Card();
            other.id = id;
            other.color = color;
            other.rank = rank;
            other.colors = new TreeSet<>(colors);
            other.ranks = new TreeSet<>(ranks);
            other.touched = touched;
            return other;
        }
    }

    private static final class State {
        int colors;
        int ranks;
        int players;
        int handSize;
        int most;
        int tokens;
        int lives;
        int turn;
        int left;
        int[] piles = new int[0];
        List<List<Card>> hands = new ArrayList<>();
        List<Card> deck = new ArrayList<>();
        List<Card> heap = new ArrayList<>();
        List<Card> played = new ArrayList<>();
        int[][] words = {new int[4], new int[6]};
        int[] totals = new int[7];
        List<int[]> log = new ArrayList<>();

        State copy() {
            State s = new State();
            s.colors = colors;
            s.ranks = ranks;
            s.players = players;
            s.handSize = handSize;
            s.most = most;
            s.tokens = tokens;
            s.lives = lives;
            s.turn = turn;
            s.left = left;
            s.piles = piles.clone();
            for (List<Card> hand : hands) {
                s.hands.add(copyAll(hand));
            }
            s.deck = copyAll(deck);
            s.heap = copyAll(heap);
            s.played = copyAll(played);
            s.words = new int[][] {words[0].clone(), words[1].clone()};
            s.totals = totals.clone();
            s.log = new ArrayList<>(log);
            return s;
        }

        private static List<Card> copyAll(List<Card> cards) {
            List<Card> copies = new ArrayList<>();
            for (Card card : cards) {
                copies.add(card.copy());
            }
            return copies;
        }

        int score() {
            return Arrays.stream(piles).sum();
        }

        int over() {
            if (players == 0) {
                return 3;
            }
            if (lives == 0) {
                return 1;
            }
            if (Arrays.stream(piles).allMatch(top -> top == ranks)) {
                return 2;
            }
            return left == 0 ? 3 : 0;
        }

        long countKind(List<Card> cards, int c, int r) {
            return cards.stream().filter(card -> card.is(c, r)).count();
        }

        long inHands(int c, int r) {
            return hands.stream().mapToLong(hand -> countKind(hand, c, r)).sum();
        }

        long copies(int c, int r) {
            return inHands(c, r) + countKind(deck, c, r) + countKind(heap, c, r) + countKind(played, c, r);
        }

        boolean allInHeap(int c, int r) {
            return countKind(heap, c, r) == copies(c, r);
        }

        boolean useless(int c, int r) {
            if (r <= piles[c]) {
                return true;
            }
            for (int lower = piles[c] + 1; lower <= r; lower++) {
                if (allInHeap(c, lower)) {
                    return true;
                }
            }
            return false;
        }

        boolean critical(int c, int r) {
            return !useless(c, r) && countKind(heap, c, r) == copies(c, r) - 1;
        }

        List<int[]> possible(int player, Card card) {
            List<int[]> kinds = new ArrayList<>();
            for (int c = 0; c < colors; c++) {
                for (int r = 1; r <= ranks; r++) {
                    long seen = countKind(heap, c, r) + (r <= piles[c] ? 1 : 0);
                    for (int other = 0; other < players; other++) {
                        seen += other == player ? 0 : countKind(hands.get(other), c, r);
                    }
                    if (card.colors.contains(c) && card.ranks.contains(r) && seen != copies(c, r)) {
                        kinds.add(new int[] {c, r});
                    }
                }
            }
            return kinds;
        }

        int known(int player, Card card) {
            List<int[]> kinds = possible(player, card);
            if (kinds.isEmpty()) {
                return 0;
            }
            if (kinds.stream().allMatch(kind -> kind[1] == piles[kind[0]] + 1)) {
                return 1;
            }
            return kinds.stream().allMatch(kind -> useless(kind[0], kind[1])) ? 2 : 0;
        }

        boolean has(Card card, int word, int value) {
            return word == 0 ? card.color == value : card.rank == value;
        }

        void learn(int player, int word, int value) {
            for (Card card : hands.get(player)) {
                Set<Integer> left = word == 0 ? card.colors : card.ranks;
                if (has(card, word, value)) {
                    left.retainAll(Set.of(value));
                    card.touched = true;
                } else {
                    left.remove(value);
                }
            }
        }

        int touches(int player, int word, int value) {
            int sum = 0;
            for (int k = 0; k < hands.get(player).size(); k++) {
                sum += has(hands.get(player).get(k), word, value) ? 1 << k : 0;
            }
            return sum;
        }

        int tells(int player, int word, int value) {
            State behind = copy();
            behind.learn(player, word, value);
            int sum = 0;
            for (int k = 0; k < hands.get(player).size(); k++) {
                boolean before = known(player, hands.get(player).get(k)) == 1;
                if (!before && behind.known(player, behind.hands.get(player).get(k)) == 1) {
                    sum++;
                }
            }
            return sum;
        }

        void tokenBack() {
            if (tokens < most) {
                tokens++;
                totals[4]++;
            }
        }

        void draw() {
            if (!deck.isEmpty()) {
                hands.get(turn).add(deck.remove(0));
                if (deck.isEmpty()) {
                    left = players + 1;
                }
            }
        }

        void end(int kind, int what, int word) {
            log.add(new int[] {turn, kind, what, word});
            if (left != NONE) {
                left--;
            }
            turn = (turn + 1) % players;
        }

        void play(int place) {
            Card card = hands.get(turn).get(place);
            boolean fits = card.rank == piles[card.color] + 1;
            boolean critical = critical(card.color, card.rank);
            hands.get(turn).remove(place);
            if (fits) {
                piles[card.color]++;
                played.add(card);
                totals[0]++;
                if (card.rank == ranks) {
                    tokenBack();
                }
            } else {
                totals[6] += critical ? 1 : 0;
                heap.add(card);
                lives--;
                totals[1]++;
            }
            draw();
            end(fits ? 0 : 4, card.code(), NONE);
        }

        void discard(int place) {
            Card card = hands.get(turn).get(place);
            boolean critical = critical(card.color, card.rank);
            hands.get(turn).remove(place);
            heap.add(card);
            totals[6] += critical ? 1 : 0;
            totals[2]++;
            tokenBack();
            draw();
            end(1, card.code(), NONE);
        }

        int hint(int player, int word, int value) {
            int touched = Integer.bitCount(touches(player, word, value));
            learn(player, word, value);
            words[word][value]--;
            tokens--;
            totals[3]++;
            totals[5] += touched;
            end(2, player, 10 * word + value);
            return touched;
        }

        void pass() {
            end(3, NONE, NONE);
        }

        List<int[]> hints() {
            List<int[]> all = new ArrayList<>();
            if (tokens == 0) {
                return all;
            }
            for (int k = 1; k < players; k++) {
                int player = (turn + k) % players;
                for (int word = 0; word < 2; word++) {
                    for (int value = word; value < (word == 0 ? colors : ranks + 1); value++) {
                        if (words[word][value] > 0 && touches(player, word, value) != 0) {
                            all.add(new int[] {2, player, word, value});
                        }
                    }
                }
            }
            return all;
        }

        int[] advice() {
            List<Card> own = hands.get(turn);
            List<int[]> hints = hints();
            if (own.isEmpty() && hints.isEmpty()) {
                return new int[] {3, NONE, NONE, NONE};
            }
            for (int k = 0; k < own.size(); k++) {
                if (known(turn, own.get(k)) == 1) {
                    return new int[] {0, k, NONE, NONE};
                }
            }
            int most = 0;
            for (int[] hint : hints) {
                most = Math.max(most, tells(hint[1], hint[2], hint[3]));
            }
            for (int[] hint : hints) {
                if (most > 0 && tells(hint[1], hint[2], hint[3]) == most) {
                    return hint;
                }
            }
            for (int k = 0; k < own.size(); k++) {
                if (known(turn, own.get(k)) == 2) {
                    return new int[] {1, k, NONE, NONE};
                }
            }
            for (int k = 0; k < own.size(); k++) {
                if (!own.get(k).touched) {
                    return new int[] {1, k, NONE, NONE};
                }
            }
            return hints.isEmpty() ? new int[] {1, 0, NONE, NONE} : hints.get(0);
        }

        void take(int[] move) {
            switch (move[0]) {
                case 0 -> play(move[1]);
                case 1 -> discard(move[1]);
                case 2 -> hint(move[1], move[2], move[3]);
                default -> pass();
            }
        }

        int bound() {
            int sum = 0;
            for (int c = 0; c < colors; c++) {
                int r = piles[c];
                while (r < ranks && !allInHeap(c, r + 1)) {
                    r++;
                }
                sum += r;
            }
            return sum;
        }

        /** The sensible moves, each one as a kind and a place. */
        List<int[]> moves() {
            List<int[]> all = new ArrayList<>();
            if (over() != 0) {
                return all;
            }
            List<Card> own = hands.get(turn);
            for (int k = 0; k < own.size(); k++) {
                if (own.get(k).rank == piles[own.get(k).color] + 1) {
                    all.add(new int[] {0, k});
                }
            }
            for (int k = 0; k < own.size(); k++) {
                all.add(new int[] {1, k});
            }
            if (tokens > 0) {
                all.add(new int[] {2, NONE});
            }
            if (own.isEmpty()) {
                all.add(new int[] {3, NONE});
            }
            return all;
        }

        State behind(int[] move) {
            State s = copy();
            if (move[0] == 2) {
                s.tokens--;
                s.end(2, 0, 0);
            } else {
                s.take(new int[] {move[0], move[1], NONE, NONE});
            }
            return s;
        }

        String position() {
            StringBuilder text = new StringBuilder();
            for (List<Card> hand : hands) {
                Set<Integer> ids = new TreeSet<>();
                for (Card card : hand) {
                    ids.add(card.id);
                }
                text.append(ids);
            }
            text.append(Arrays.toString(piles)).append(tokens).append('/').append(deck.size());
            return text.append('/').append(turn).append('/').append(left).toString();
        }
    }

    /** What load() throws inside of the model where the text has an error. */
    private static final class Wrong extends RuntimeException {
        private static final long serialVersionUID = 1L;
        final int kind;
        final int at;
        final int statement;

        Wrong(int kind, int at, int statement) {
            this.kind = kind;
            this.at = at;
            this.statement = statement;
        }
    }

    private StringBuilder input = new StringBuilder();
    private String output = "";
    private int error;
    private int errorStatement = NONE;
    private State state = new State();
    private ArrayDeque<State> past = new ArrayDeque<>();
    private final State[] saved = new State[2];
    /** How many moves the positions take at most; the fuzz leaves larger searches out. */
    static final int MOST = 4000;

    int append(long bytes) {
        StringBuilder more = new StringBuilder();
        for (int k = 0; k < 8; k++) {
            int b = (int) (bytes >> (56 - 8 * k)) & 255;
            if (b != 0) {
                more.append((char) b);
            }
        }
        if (input.length() + more.length() > 600) {
            return -2;
        }
        return input.append(more).length();
    }

    int load() {
        String text = input.toString();
        input = new StringBuilder();
        try {
            state = new Text(text).read();
            past.clear();
            error = 0;
            errorStatement = NONE;
            return (int) (state.deck.size() + (long) state.players * state.handSize);
        } catch (Wrong wrong) {
            error = wrong.kind;
            errorStatement = wrong.statement;
            return -100 - wrong.at;
        }
    }

    /** A text and where it is read. */
    private static final class Text {
        final String text;
        int at;
        int statement;
        final State s = new State();
        final List<Card> cards = new ArrayList<>();

        Text(String text) {
            this.text = text;
        }

        String token(String pattern) {
            while (text.startsWith(" ", at)) {
                at++;
            }
            String rest = text.substring(at);
            String found = rest.replaceFirst("(?s)^(" + pattern + ").*$", "$1");
            return rest.matches("(?s)^(" + pattern + ").*$") ? found : "";
        }

        Wrong wrong(int kind) {
            return new Wrong(kind, at, statement);
        }

        int number(int low, int high) {
            String digits = token("[0-9]+");
            if (digits.isEmpty()) {
                throw wrong(1);
            }
            if (digits.replaceFirst("^0+", "").length() > 8 || Integer.parseInt(digits) < low
                    || Integer.parseInt(digits) > high) {
                throw wrong(2);
            }
            at += digits.length();
            return Integer.parseInt(digits);
        }

        void card() {
            String card = token("[a-z][0-9]+");
            if (card.isEmpty()) {
                throw wrong(1);
            }
            int color = card.charAt(0) - 'a';
            int rank = card.length() == 2 ? card.charAt(1) - '0' : 0;
            if (color >= s.colors || rank < 1 || rank > s.ranks) {
                throw wrong(2);
            }
            if (cards.size() == 40) {
                throw wrong(3);
            }
            Card c = new Card();
            c.color = color;
            c.rank = rank;
            cards.add(c);
            at += 2;
        }

        State read() {
            s.most = 8;
            s.tokens = 8;
            s.lives = 3;
            Arrays.fill(s.words[0], 99);
            Arrays.fill(s.words[1], 99);
            int seed = NONE;
            boolean more = true;
            while (more) {
                String word = token("[a-z]+");
                if (statement == 0 ? !word.equals("game") : !List.of("deck", "tokens", "lives", "color", "rank",
                        "shuffle").contains(word)) {
                    throw wrong(1);
                }
                at += word.length();
                switch (word) {
                    case "game" -> {
                        s.colors = number(1, 4);
                        s.ranks = number(1, 5);
                        s.players = number(2, 4);
                        s.handSize = number(1, 5);
                    }
                    case "deck" -> {
                        card();
                        while (!token("[a-z]").isEmpty()) {
                            card();
                        }
                    }
                    case "tokens" -> {
                        s.most = number(1, 9);
                        s.tokens = number(0, s.most);
                    }
                    case "lives" -> s.lives = number(1, 5);
                    case "color" -> {
                        int value = number(0, s.colors - 1);
                        s.words[0][value] = number(0, 99);
                    }
                    case "rank" -> {
                        int value = number(1, s.ranks);
                        s.words[1][value] = number(0, 99);
                    }
                    default -> seed = number(0, 999999);
                }
                String separator = token(";");
                if (separator.isEmpty() && at < text.length()) {
                    throw wrong(1);
                }
                more = !separator.isEmpty();
                if (more) {
                    at++;
                    statement++;
                }
            }
            if (cards.size() < s.players * s.handSize) {
                throw wrong(4);
            }
            if (seed != NONE) {
                shuffle(seed);
            }
            deal();
            return s;
        }

        void shuffle(long seed) {
            long state = seed;
            for (int k = cards.size() - 1; k > 0; k--) {
                state = (state * 1103515245 + 12345) % (1L << 31);
                Collections.swap(cards, k, (int) (state / 65536 % (k + 1)));
            }
        }

        void deal() {
            for (int k = 0; k < cards.size(); k++) {
                Card card = cards.get(k);
                card.id = k;
                for (int c = 0; c < s.colors; c++) {
                    card.colors.add(c);
                }
                for (int r = 1; r <= s.ranks; r++) {
                    card.ranks.add(r);
                }
            }
            s.deck.addAll(cards);
            s.piles = new int[s.colors];
            for (int p = 0; p < s.players; p++) {
                s.hands.add(new ArrayList<>());
                for (int k = 0; k < s.handSize; k++) {
                    s.hands.get(p).add(s.deck.remove(0));
                }
            }
            s.left = s.deck.isEmpty() ? s.players : NONE;
        }
    }

    int loadError() {
        return error;
    }

    int loadStatement() {
        return errorStatement;
    }

    private void player(int player) {
        if (player < 0 || player >= state.players) {
            throw new IndexOutOfBoundsException();
        }
    }

    private Card cardAt(int player, int place) {
        player(player);
        if (place < 0 || place >= state.hands.get(player).size()) {
            throw new IndexOutOfBoundsException();
        }
        return state.hands.get(player).get(place);
    }

    private void kind(int color, int rank) {
        if (color < 0 || color >= state.colors || rank < 1 || rank > state.ranks) {
            throw new IndexOutOfBoundsException();
        }
    }

    private void range(int what, int low, int high) {
        if (what < low || what > high) {
            throw new IllegalArgumentException();
        }
    }

    private void word(int word, int value) {
        range(word, 0, 1);
        range(value, word, word == 0 ? state.colors - 1 : state.ranks);
    }

    int count(int what) {
        range(what, 0, 10);
        return new int[] {state.colors, state.ranks, state.players, state.handSize, state.deck.size(), state.tokens,
            state.lives, state.score(), state.log.size(), state.left, past.size()}[what];
    }

    int turnOf() {
        return state.over() != 0 ? NONE : state.turn;
    }

    int over() {
        return state.over();
    }

    int pile(int color) {
        kind(color, 1);
        return state.piles[color];
    }

    int hand(int player) {
        player(player);
        return state.hands.get(player).size();
    }

    int card(int player, int place) {
        return cardAt(player, place).code();
    }

    int drawn(int index) {
        return index < 0 || index >= state.deck.size() ? NONE : state.deck.get(index).code();
    }

    int copies(int color, int rank, int what) {
        kind(color, rank);
        range(what, 0, 3);
        return (int) switch (what) {
            case 0 -> state.copies(color, rank);
            case 1 -> state.countKind(state.heap, color, rank);
            case 2 -> state.inHands(color, rank);
            default -> state.countKind(state.deck, color, rank);
        };
    }

    boolean isUseless(int color, int rank) {
        kind(color, rank);
        return state.useless(color, rank);
    }

    boolean isCritical(int color, int rank) {
        kind(color, rank);
        return state.critical(color, rank);
    }

    int colorsOf(int player, int place) {
        return cardAt(player, place).colors.stream().mapToInt(c -> 1 << c).sum();
    }

    int ranksOf(int player, int place) {
        return cardAt(player, place).ranks.stream().mapToInt(r -> 1 << (r - 1)).sum();
    }

    boolean isTouched(int player, int place) {
        return cardAt(player, place).touched;
    }

    int thinks(int player, int place) {
        return state.possible(player, cardAt(player, place)).size();
    }

    int thought(int player, int place, int index) {
        List<int[]> kinds = state.possible(player, cardAt(player, place));
        return index < 0 || index >= kinds.size() ? NONE : 10 * kinds.get(index)[0] + kinds.get(index)[1];
    }

    int knows(int player, int place) {
        return state.known(player, cardAt(player, place));
    }

    int wordsLeft(int word, int value) {
        word(word, value);
        return state.words[word][value];
    }

    int touches(int player, int word, int value) {
        player(player);
        word(word, value);
        return state.touches(player, word, value);
    }

    int tells(int player, int word, int value) {
        player(player);
        word(word, value);
        return state.tells(player, word, value);
    }

    private void remember() {
        past.addLast(state.copy());
        if (past.size() > 20) {
            past.removeFirst();
        }
    }

    int play(int place) {
        if (state.over() != 0) {
            return OVER;
        }
        cardAt(state.turn, place);
        remember();
        state.play(place);
        return state.score();
    }

    int discard(int place) {
        if (state.over() != 0) {
            return OVER;
        }
        cardAt(state.turn, place);
        remember();
        state.discard(place);
        return state.tokens;
    }

    int hint(int player, int word, int value) {
        player(player);
        if (state.over() == 0 && player == state.turn) {
            throw new IndexOutOfBoundsException();
        }
        word(word, value);
        if (state.over() != 0) {
            return OVER;
        }
        if (state.tokens == 0) {
            return -4;
        }
        if (state.words[word][value] == 0 || state.touches(player, word, value) == 0) {
            return -5;
        }
        remember();
        return state.hint(player, word, value);
    }

    int pass() {
        if (state.over() != 0) {
            return OVER;
        }
        if (!state.hands.get(state.turn).isEmpty()) {
            return -6;
        }
        remember();
        state.pass();
        return turnOf();
    }

    int advice(int what) {
        range(what, 0, 3);
        return state.over() != 0 ? OVER : state.advice()[what];
    }

    int follow(int turns) {
        range(turns, 1, 100);
        int taken = 0;
        while (taken < turns && state.over() == 0) {
            remember();
            state.take(state.advice());
            taken++;
        }
        return taken;
    }

    int foreseen() {
        State s = state.copy();
        for (int k = 0; k < 300 && s.over() == 0; k++) {
            s.take(s.advice());
        }
        return s.score();
    }

    int bound() {
        return state.bound();
    }

    int pace() {
        return state.score() + state.deck.size() + state.players - bound();
    }

    /** The number of positions and the VALUE; nothing if there are too many. */
    private static int[] survey(State from) {
        Set<String> all = new LinkedHashSet<>(Set.of(from.position()));
        Set<String> open = new HashSet<>(all);
        ArrayDeque<State> next = new ArrayDeque<>(List.of(from));
        int best = 0;
        while (!next.isEmpty()) {
            State s = next.removeFirst();
            best = Math.max(best, s.score());
            for (int[] move : s.moves()) {
                State behind = s.behind(move);
                if (all.add(behind.position())) {
                    next.addLast(behind);
                }
            }
            if (all.size() > MOST) {
                return new int[0];
            }
        }
        return new int[] {all.size(), best};
    }

    int value() {
        int[] found = survey(state);
        return found.length == 0 ? -8 : found[1];
    }

    int positions() {
        int[] found = survey(state);
        return found.length == 0 ? -8 : found[0];
    }

    int valueBehind(int kind, int place) {
        range(kind, 0, 3);
        if (state.over() != 0) {
            return OVER;
        }
        for (int[] move : state.moves()) {
            if (move[0] == kind && (kind > 1 || move[1] == place)) {
                int[] found = survey(state.behind(move));
                return found.length == 0 ? -8 : found[1];
            }
        }
        return -7;
    }

    int bestMove(int what) {
        range(what, 0, 1);
        if (state.over() != 0) {
            return OVER;
        }
        int value = value();
        if (value == -8) {
            return -8;
        }
        for (int[] move : state.moves()) {
            if (survey(state.behind(move))[1] == value) {
                return move[what];
            }
        }
        throw new IllegalStateException("no move keeps the value");
    }

    int total(int what) {
        range(what, 0, 6);
        return state.totals[what];
    }

    int logPart(int index, int what) {
        range(what, 0, 3);
        if (index < 0 || index >= 30 || index >= state.log.size()) {
            return -1000;
        }
        return state.log.get(state.log.size() - 1 - index)[what];
    }

    int undo() {
        if (past.isEmpty()) {
            return NONE;
        }
        state = past.removeLast();
        return past.size();
    }

    int writeHand(int player, boolean seen) {
        player(player);
        List<String> words = new ArrayList<>();
        for (Card card : state.hands.get(player)) {
            String letter = seen || card.colors.size() == 1 ? String.valueOf((char) ('a' + card.color)) : "?";
            words.add(letter + (seen || card.ranks.size() == 1 ? String.valueOf(card.rank) : "?"));
        }
        output = String.join(" ", words);
        return output.length();
    }

    int outputByte(int index) {
        return index < 0 || index >= output.length() ? NONE : output.charAt(index);
    }

    int saveSnapshot(int slot) {
        range(slot, 0, 1);
        saved[slot] = state.copy();
        return state.score();
    }

    int restoreSnapshot(int slot) {
        range(slot, 0, 1);
        if (saved[slot] == null) {
            return NONE;
        }
        state = saved[slot].copy();
        past.clear();
        return state.score();
    }
}
