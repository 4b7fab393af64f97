/** For each promise of the document what it asks for, worked out by hand: ordinary inputs, edges, wrong inputs. */
public final class PromiseTest extends Checks {
    public static void main(String[] args) {
        newObject();
        append();
        loadCounts();
        loadErrors();
        loadStatements();
        shuffles();
        counts();
        endings();
        cards();
        copies();
        uselessAndCritical();
        hintedKinds();
        thoughts();
        words();
        playing();
        discarding();
        hinting();
        passing();
        advice();
        following();
        boundAndPace();
        values();
        valuesBehind();
        bestMoves();
        totals();
        logs();
        undoing();
        writing();
        snapshots();
        end("PromiseTest");
    }

    private static void newObject() {
        about = "promise 1";
        HintTeam team = new HintTeam();
        for (int what = 0; what <= 10; what++) {
            due("count(" + what + ")", team.count(what), 0);
        }
        due("over()", team.over(), 3);
        due("turnOf()", team.turnOf(), HintTeam.NONE);
        due("positions()", team.positions(), 1);
        due("value()", team.value(), 0);
        due("foreseen()", team.foreseen(), 0);
        due("bound()", team.bound(), 0);
        due("pace()", team.pace(), 0);
        due("play(0)", team.play(0), HintTeam.OVER);
        due("discard(-1)", team.discard(-1), HintTeam.OVER);
        due("pass()", team.pass(), HintTeam.OVER);
        due("follow(1)", team.follow(1), 0);
        due("undo()", team.undo(), HintTeam.NONE);
        due("outputByte(0)", team.outputByte(0), HintTeam.NONE);
        due("drawn(0)", team.drawn(0), HintTeam.NONE);
        due("restoreSnapshot(1)", team.restoreSnapshot(1), HintTeam.NONE);
        due("append(0)", team.append(0), 0);
        fails("pile(0)", INDEX, () -> team.pile(0));
        fails("wordsLeft(1, 1)", ARGUMENT, () -> team.wordsLeft(1, 1));
        fails("hint(0, 0, 0)", INDEX, () -> team.hint(0, 0, 0));
    }

    private static void append() {
        about = "promise 2";
        HintTeam team = new HintTeam();
        due("append(0x6100000000620000)", team.append(0x6100000000620000L), 2);
        due("append(0)", team.append(0), 2);
        due("append(-1)", team.append(-1L), 10);
        due("append(1 << 63)", team.append(Long.MIN_VALUE), 11);
        for (int k = 0; k < 73; k++) {
            team.append(0x2020202020202020L);
        }
        due("length of 595", team.append(0), 595);
        due("append of 6 bytes", team.append(0x202020202020L), HintTeam.FULL);
        due("append(0) behind FULL", team.append(0), 595);
        due("append of 5 bytes", team.append(0x2020202020L), 600);
        due("append of 1 byte", team.append(1), HintTeam.FULL);
        due("append of none", team.append(0), 600);
        due("load()", team.load(), -100);
        due("append behind load", team.append(5), 1);

        HintTeam order = new HintTeam();
        order.append(0x67616d6520312031L);
        order.append(0x2032203100003b64L);
        order.append(0x65636b2061310061L);
        order.append(0x31L);
        due("load()", order.load(), 2);
    }

    private static void loadCounts() {
        about = "promise 3";
        HintTeam team = new HintTeam();
        due("load()", load(team, PLAIN), 8);
        due("cards to be drawn", team.count(4), 4);
        due("spaces", load(team, "  game1 1  2 1 ; deck a1a1  a1 ;tokens9 0;lives5;rank1 7 "), 3);
        due("tokens", team.count(5), 0);
        due("lives", team.count(6), 5);
        due("word", team.wordsLeft(1, 1), 7);
        due("other word", team.wordsLeft(0, 0), 99);
        due("the last ones count", load(team, "game 1 1 2 1;lives 1;deck a1;tokens 5 5;lives 2;tokens 3 1;deck a1;"
                + "color 0 1;color 0 4"), 2);
        due("lives", team.count(6), 2);
        due("tokens", team.count(5), 1);
        due("word", team.wordsLeft(0, 0), 4);
        due("without statements", load(team, "game 1 1 2 1;deck a1 a1"), 2);
        due("tokens", team.count(5), 8);
        due("lives", team.count(6), 3);
        due("zeros before a number", load(team, "game 01 0001 2 1;deck a1 a1"), 2);
        due("40 cards", load(team, "game 4 5 4 5;deck " + "d5".repeat(40)), 40);

        team = of(PLAIN);
        team.play(0);
        team.writeHand(0, true);
        team.saveSnapshot(0);
        due("a wrong text", load(team, "game 1 1 2 1;deck a1"), -120);
        due("score behind it", team.count(7), 1);
        due("turns behind it", team.count(10), 1);
        due("buffer behind it", team.append(32), 1);
        due("load behind it", team.load(), -101);
        due("a right text", load(team, "game 1 1 2 1;deck a1 a1"), 2);
        due("turns to take back", team.count(10), 0);
        due("undo()", team.undo(), HintTeam.NONE);
        due("turns", team.count(8), 0);
        due("log", team.logPart(0, 0), HintTeam.NO_VALUE);
        due("total", team.total(0), 0);
        due("output stays", output(team).equals("b1 a3"), true);
        due("snapshot stays", team.restoreSnapshot(0), 1);
        due("hand of snapshot", team.hand(0), 2);
    }

    private static void error(String text, int kind, int position, int statement) {
        HintTeam team = new HintTeam();
        about = "promise 3";
        due("load of " + text, load(team, text), -100 - position);
        about = "promise 4";
        due("error of " + text, team.loadError(), kind);
        about = "promise 5";
        due("statement of " + text, team.loadStatement(), statement);
    }

    private static void loadErrors() {
        error("", 1, 0, 0);
        error("   ", 1, 3, 0);
        error("deck a1", 1, 0, 0);
        error(" gam 1 1 2 1", 1, 1, 0);
        error("games 1 1 2 1", 1, 0, 0);
        error("Game 1 1 2 1", 1, 0, 0);
        error("game", 1, 4, 0);
        error("game 1 1 2 ", 1, 11, 0);
        error("game;", 1, 4, 0);
        error("game a 1 2 1", 1, 5, 0);
        error("game -1 1 2 1", 1, 5, 0);
        error("game 1x1 2 1", 1, 6, 0);
        error("game 5 1 2 1", 2, 5, 0);
        error("game 0 1 2 1", 2, 5, 0);
        error("game 1 6 2 1", 2, 7, 0);
        error("game 1 1 1 1", 2, 9, 0);
        error("game 1 1 5 1", 2, 9, 0);
        error("game 1 1 2 6", 2, 11, 0);
        error("game 1 1 21", 2, 9, 0);
        error("game 99999999999999999999 1 2 1", 2, 5, 0);
        error("game 4294967297 1 2 1", 2, 5, 0);
        error("game 1 1 2 1", 4, 12, 0);
        error("game 1 1 2 1 ", 4, 13, 0);
        error("game 1 1 2 1;", 1, 13, 1);
        error("game 1 1 2 1;;deck a1 a1", 1, 13, 1);
        error("game 1 1 2 1 3", 1, 13, 0);
        error("game 1 1 2 1deck a1 a1", 1, 12, 0);
        error("game 1 1 2 1;game 1 1 2 1", 1, 13, 1);
        error("game 1 1 2 1;decks a1 a1", 1, 13, 1);
        error("game 1 1 2 1;decka1 a1", 1, 13, 1);
        error("game 1 1 2 1;deck", 1, 17, 1);
        error("game 1 1 2 1;deck;", 1, 17, 1);
        error("game 1 1 2 1;deck 1", 1, 18, 1);
        error("game 1 1 2 1;deck a", 1, 18, 1);
        error("game 1 1 2 1;deck a 1", 1, 18, 1);
        error("game 1 1 2 1;deck z", 1, 18, 1);
        error("game 1 1 2 1;deck ab1", 1, 18, 1);
        error("game 1 1 2 1;deck a1 ab1", 1, 21, 1);
        error("game 1 1 2 1;deck a1 lives 3", 1, 21, 1);
        error("game 1 1 2 1;deck a1b", 1, 20, 1);
        error("game 1 1 2 1;deck a1 1", 1, 21, 1);
        error("game 1 1 2 1;deck a1 ?", 1, 21, 1);
        error("game 1 1 2 1;deck a1 a1\n", 1, 23, 1);
        error("game 1 1 2 1;deck A1", 1, 18, 1);
        error("game 1 1 2 1;deck b1", 2, 18, 1);
        error("game 4 1 2 1;deck e1", 2, 18, 1);
        error("game 4 1 2 1;deck d1 z1", 2, 21, 1);
        error("game 1 1 2 1;deck a0", 2, 18, 1);
        error("game 1 1 2 1;deck a2", 2, 18, 1);
        error("game 1 5 2 1;deck a11", 2, 18, 1);
        error("game 1 5 2 1;deck a10 a1", 2, 18, 1);
        error("game 1 5 2 1;deck a1 a1;tokens 0 0", 2, 31, 2);
        error("game 1 5 2 1;deck a1 a1;tokens 10 0", 2, 31, 2);
        error("game 1 5 2 1;deck a1 a1;tokens 3 4", 2, 33, 2);
        error("game 1 5 2 1;deck a1 a1;tokens 3", 1, 32, 2);
        error("game 1 5 2 1;deck a1 a1;lives 0", 2, 30, 2);
        error("game 1 5 2 1;deck a1 a1;lives 6", 2, 30, 2);
        error("game 1 5 2 1;deck a1 a1;lives 6 x", 2, 30, 2);
        error("game 2 5 2 1;deck a1 a1;color 2 1", 2, 30, 2);
        error("game 2 5 2 1;deck a1 a1;color a 1", 1, 30, 2);
        error("game 2 5 2 1;deck a1 a1;color 1 100", 2, 32, 2);
        error("game 2 4 2 1;deck a1 a1;rank 0 1", 2, 29, 2);
        error("game 2 4 2 1;deck a1 a1;rank 5 1", 2, 29, 2);
        error("game 2 4 2 1;deck a1 a1;rank 4 1 1", 1, 33, 2);
        error("game 2 4 2 1;deck a1 a1;shuffle 1000000", 2, 32, 2);
        error("game 2 4 2 1;deck a1 a1;shuffle", 1, 31, 2);
        error("game 1 1 2 1;deck " + "a1".repeat(41), 3, 98, 1);
        error("game 1 1 2 1;deck " + "a1".repeat(40) + ";deck a1", 3, 104, 2);
        error("game 1 1 2 1;deck " + "a1".repeat(40) + "a2", 2, 98, 1);
        error("game 1 1 2 1;deck " + "a1".repeat(40) + "a", 1, 98, 1);
        error("game 1 1 3 1;deck a1 a1", 4, 23, 1);
        error("game 1 1 3 1;deck a1 a1;lives 3 ", 4, 32, 2);
        error("game 4 5 4 5;deck " + "a1".repeat(19), 4, 56, 1);
        error("game 1 1 2 1;deck a1 a1\u00e9", 1, 23, 1);
        error("game 1 1 2 1;deck a1 a01", 2, 21, 1);
    }

    private static void loadStatements() {
        HintTeam team = new HintTeam();
        about = "promise 4";
        due("no call of load", team.loadError(), 0);
        about = "promise 5";
        due("no call of load", team.loadStatement(), HintTeam.NONE);
        load(team, "game 1 1 2 1;deck a1 a1;tokens 3 3;oops");
        due("fourth statement", team.loadStatement(), 3);
        team.saveSnapshot(0);
        team.restoreSnapshot(0);
        due("snapshots leave it", team.loadStatement(), 3);
        about = "promise 4";
        due("snapshots leave it", team.loadError(), 1);
        load(team, "game 1 1 2 1;deck a1 a1");
        due("no error", team.loadError(), 0);
        about = "promise 5";
        due("no error", team.loadStatement(), HintTeam.NONE);
    }

    private static void shuffles() {
        about = "promise 3";
        // Seed 0: the states are 12345, 1406932606, 654583775: draws 0 of 4, 21468 % 3 = 0, 9988 % 2 = 0.
        HintTeam team = of("game 1 4 2 1;deck a1 a2;shuffle 0;deck a3 a4");
        // a1 a2 a3 a4 -> a4 a2 a3 a1 -> a3 a2 a4 a1 -> a2 a3 a4 a1
        due("first card", team.card(0, 0), 2);
        due("second card", team.card(1, 0), 3);
        due("third card", team.drawn(0), 4);
        due("fourth card", team.drawn(1), 1);
        team = of("game 1 4 2 1;shuffle 77;deck a1 a2 a3 a4;shuffle 0");
        due("the last seed counts", team.card(0, 0), 2);
    }

    private static void counts() {
        about = "promise 6";
        HintTeam team = of("game 3 2 4 2;deck a1 a1 b1 b1 c1 c1 a2 b2 c2 a1;tokens 5 4;lives 2");
        int[] due = {3, 2, 4, 2, 2, 4, 2, 0, 0, -1, 0};
        for (int what = 0; what < due.length; what++) {
            due("count(" + what + ")", team.count(what), due[what]);
        }
        team.play(0);
        team.discard(0);
        int[] behind = {3, 2, 4, 2, 0, 5, 2, 1, 2, 4, 2};
        for (int what = 0; what < behind.length; what++) {
            due("count(" + what + ") behind", team.count(what), behind[what]);
        }
        team.discard(0);
        due("tokens never beyond MOST", team.count(5), 5);
        due("turns left", team.count(9), 3);
        team.play(0);
        team.play(0);
        due("a2 was played, a1 was lost", team.count(6), 1);
        due("one turn left", team.count(9), 1);
        fails("count(-1)", ARGUMENT, () -> team.count(-1));
        fails("count(11)", ARGUMENT, () -> team.count(11));
        due("none to draw at the beginning", of("game 1 1 3 1;deck a1 a1 a1").count(9), 3);
    }

    private static void endings() {
        about = "promise 7";
        HintTeam team = of("game 1 2 3 1;deck a2 a2 a1 a1;lives 2");
        due("at the beginning", team.turnOf(), 0);
        team.hint(1, 1, 2);
        due("second turn", team.turnOf(), 1);
        team.hint(0, 1, 2);
        due("third turn", team.turnOf(), 2);
        team.hint(0, 1, 2);
        due("the first player again", team.turnOf(), 0);
        about = "promise 8";
        due("not over", team.over(), 0);
        team.play(0);
        due("one life", team.over(), 0);
        team.play(0);
        due("no lives", team.over(), 1);
        due("the lost card is followed by no card", team.hand(1), 0);
        due("no turn", team.turnOf(), HintTeam.NONE);

        team = of("game 1 1 2 1;deck a1 a1 a1");
        team.play(0);
        due("whole piles", team.over(), 2);
        due("a card is drawn nevertheless", team.hand(0), 1);
        due("it was the last one", team.count(4), 0);
        due("turns left", team.count(9), 2);
        team = of("game 2 1 2 1;deck a1 a1");
        team.discard(0);
        due("last round", team.over(), 0);
        team.discard(0);
        due("last round over", team.over(), 3);
        team = of("game 2 1 2 1;deck a1 a1;lives 1");
        team.play(0);
        team.play(0);
        due("no lives before the last round", team.over(), 1);
        team = of("game 1 2 2 1;deck a1 a2");
        team.play(0);
        team.play(0);
        due("whole piles before the last round", team.over(), 2);
        due("score", team.count(7), 2);
    }

    private static void cards() {
        HintTeam team = of(PLAIN);
        about = "promise 9";
        due("empty pile", team.pile(1), 0);
        team.play(1);
        due("pile", team.pile(1), 1);
        due("other pile", team.pile(0), 0);
        fails("pile(-1)", INDEX, () -> team.pile(-1));
        fails("pile(2)", INDEX, () -> team.pile(2));
        about = "promise 10";
        due("hand", team.hand(0), 2);
        fails("hand(-1)", INDEX, () -> team.hand(-1));
        fails("hand(2)", INDEX, () -> team.hand(2));
        about = "promise 11";
        due("card(0, 0)", team.card(0, 0), 1);
        due("the drawn card comes behind", team.card(0, 1), 3);
        due("card(1, 1)", team.card(1, 1), 12);
        fails("card(2, 0)", INDEX, () -> team.card(2, 0));
        fails("card(-1, 0)", INDEX, () -> team.card(-1, 0));
        fails("card(0, 2)", INDEX, () -> team.card(0, 2));
        fails("card(0, -1)", INDEX, () -> team.card(0, -1));
        fails("card(0, MAX)", INDEX, () -> team.card(0, Integer.MAX_VALUE));
        team.discard(0);
        due("behind a card that goes", team.card(1, 0), 12);
        due("drawn behind it", team.card(1, 1), 13);
        about = "promise 12";
        due("drawn(0)", team.drawn(0), 1);
        due("drawn(1)", team.drawn(1), 11);
        due("drawn(2)", team.drawn(2), HintTeam.NONE);
        due("drawn(-1)", team.drawn(-1), HintTeam.NONE);
        due("drawn(MAX)", team.drawn(Integer.MAX_VALUE), HintTeam.NONE);
        about = "promise 10";
        HintTeam last = of("game 1 1 2 2;deck a1 a1 a1 a1;lives 5");
        last.discard(0);
        due("a hand that nothing is drawn for", last.hand(0), 1);
    }

    private static void copies() {
        about = "promise 13";
        HintTeam team = of("game 2 2 2 2;deck a1 a1 a1 b2 a1 a1 b1");
        due("whole game", team.copies(0, 1, 0), 5);
        due("in the heap", team.copies(0, 1, 1), 0);
        due("in hands", team.copies(0, 1, 2), 3);
        due("to be drawn", team.copies(0, 1, 3), 2);
        team.play(0);
        team.play(0);
        due("whole game behind", team.copies(0, 1, 0), 5);
        due("in the heap behind", team.copies(0, 1, 1), 1);
        due("in hands behind", team.copies(0, 1, 2), 3);
        due("to be drawn behind", team.copies(0, 1, 3), 0);
        due("none of a kind", team.copies(0, 2, 0), 0);
        due("last kind", team.copies(1, 2, 2), 1);
        fails("copies(2, 1, 0)", INDEX, () -> team.copies(2, 1, 0));
        fails("copies(-1, 1, 0)", INDEX, () -> team.copies(-1, 1, 0));
        fails("copies(0, 0, 0)", INDEX, () -> team.copies(0, 0, 0));
        fails("copies(0, 3, 0)", INDEX, () -> team.copies(0, 3, 0));
        fails("copies(0, 3, 9)", INDEX, () -> team.copies(0, 3, 9));
        fails("copies(0, 2, 4)", ARGUMENT, () -> team.copies(0, 2, 4));
        fails("copies(0, 2, -1)", ARGUMENT, () -> team.copies(0, 2, -1));
    }

    private static void uselessAndCritical() {
        // a: 1 1 2 3 4, b: 1 3 (no b2, no b4)
        HintTeam team = of("game 2 4 2 2;deck a1 a2 a1 a3 b1 b3 a4;lives 5");
        about = "promise 14";
        due("a1", team.isUseless(0, 1), false);
        due("a4", team.isUseless(0, 4), false);
        due("b1", team.isUseless(1, 1), false);
        due("b2, of which there is none", team.isUseless(1, 2), true);
        due("b3 above it", team.isUseless(1, 3), true);
        due("b4", team.isUseless(1, 4), true);
        about = "promise 15";
        due("a1", team.isCritical(0, 1), false);
        due("a2", team.isCritical(0, 2), true);
        due("b1", team.isCritical(1, 1), true);
        due("b2", team.isCritical(1, 2), false);
        due("b3, which is useless", team.isCritical(1, 3), false);
        team.discard(0);
        due("a1, the other one is in the heap", team.isCritical(0, 1), true);
        team.play(0);
        due("a1 on its pile", team.isCritical(0, 1), false);
        about = "promise 14";
        due("a1 on its pile", team.isUseless(0, 1), true);
        due("a2", team.isUseless(0, 2), false);
        team.discard(0);
        due("a2 in the heap", team.isUseless(0, 2), true);
        due("a3 above it", team.isUseless(0, 3), true);
        about = "promise 15";
        due("a3 above it", team.isCritical(0, 3), false);
        fails("isCritical(0, 5)", INDEX, () -> team.isCritical(0, 5));
        fails("isCritical(2, 1)", INDEX, () -> team.isCritical(2, 1));
        fails("isCritical(-1, 1)", INDEX, () -> team.isCritical(-1, 1));
        about = "promise 14";
        fails("isUseless(0, 0)", INDEX, () -> team.isUseless(0, 0));
        fails("isUseless(0, 5)", INDEX, () -> team.isUseless(0, 5));
        fails("isUseless(2, 1)", INDEX, () -> team.isUseless(2, 1));
    }

    private static void hintedKinds() {
        HintTeam team = of("game 3 4 2 3;deck a1 b2 c4 a1 b2 c3 a1 a1 a1 a1");
        about = "promise 16";
        due("no hint", team.colorsOf(1, 0), 7);
        about = "promise 17";
        due("no hint", team.ranksOf(1, 0), 15);
        about = "promise 18";
        due("no hint", team.isTouched(1, 0), false);
        team.hint(1, 0, 1);
        due("not touched", team.isTouched(1, 0), false);
        due("touched", team.isTouched(1, 1), true);
        about = "promise 16";
        due("not touched", team.colorsOf(1, 0), 5);
        due("touched", team.colorsOf(1, 1), 2);
        due("another hand", team.colorsOf(0, 1), 7);
        about = "promise 17";
        due("a color", team.ranksOf(1, 1), 15);
        team.hint(0, 1, 4);
        due("touched", team.ranksOf(0, 2), 8);
        due("not touched", team.ranksOf(0, 0), 7);
        team.hint(1, 1, 3);
        due("touched", team.ranksOf(1, 2), 4);
        due("not touched", team.ranksOf(1, 1), 11);
        about = "promise 16";
        due("by the hints alone", team.colorsOf(1, 2), 5);
        about = "promise 18";
        due("touched by the second one", team.isTouched(1, 2), true);
        team.discard(0);
        due("the knowledge goes along", team.isTouched(1, 0), true);
        due("a drawn card", team.isTouched(1, 2), false);
        about = "promise 16";
        team.discard(0);
        due("the knowledge goes along", team.colorsOf(1, 0), 2);
        due("a drawn card", team.colorsOf(0, 2), 7);
        fails("colorsOf(2, 0)", INDEX, () -> team.colorsOf(2, 0));
        fails("colorsOf(0, 3)", INDEX, () -> team.colorsOf(0, 3));
        about = "promise 17";
        fails("ranksOf(-1, 0)", INDEX, () -> team.ranksOf(-1, 0));
        fails("ranksOf(0, -1)", INDEX, () -> team.ranksOf(0, -1));
        about = "promise 18";
        fails("isTouched(2, 0)", INDEX, () -> team.isTouched(2, 0));
        fails("isTouched(1, 3)", INDEX, () -> team.isTouched(1, 3));
    }

    private static void thoughts() {
        HintTeam team = of(PLAIN);
        about = "promise 19";
        // Player 0 sees a2 b2, which are the only ones.
        due("thinks(0, 0)", team.thinks(0, 0), 4);
        // Player 1 sees a1 b1, of which there are others.
        due("thinks(1, 0)", team.thinks(1, 0), 6);
        about = "promise 20";
        int[] kinds = {1, 3, 11, 13, HintTeam.NONE};
        for (int k = 0; k < kinds.length; k++) {
            due("thought(0, 0, " + k + ")", team.thought(0, 0, k), kinds[k]);
        }
        due("thought(0, 0, -1)", team.thought(0, 0, -1), HintTeam.NONE);
        due("thought(0, 0, MAX)", team.thought(0, 0, Integer.MAX_VALUE), HintTeam.NONE);
        about = "promise 21";
        due("nothing", team.knows(0, 0), 0);
        team.hint(1, 1, 2);
        team.hint(0, 1, 1);
        due("a 1 can be played", team.knows(0, 0), 1);
        due("a 2 cannot", team.knows(1, 0), 0);
        team.play(0);
        due("one 1 can be played, the other not", team.knows(0, 0), 0);
        about = "promise 19";
        due("a1 on its pile and one to be drawn", team.thinks(0, 0), 2);
        team.discard(0);
        about = "promise 20";
        due("a1 is possible", team.thought(0, 0, 0), 1);
        team.play(0);
        about = "promise 21";
        due("player 1 with b2, as a2 is in the heap", team.knows(1, 0), 1);
        fails("knows(2, 0)", INDEX, () -> team.knows(2, 0));
        fails("knows(0, 2)", INDEX, () -> team.knows(0, 2));
        about = "promise 19";
        fails("thinks(2, 0)", INDEX, () -> team.thinks(2, 0));
        fails("thinks(0, -1)", INDEX, () -> team.thinks(0, -1));
        about = "promise 20";
        fails("thought(2, 0, 0)", INDEX, () -> team.thought(2, 0, 0));
        fails("thought(0, 2, -1)", INDEX, () -> team.thought(0, 2, -1));

        about = "promise 21";
        HintTeam useless = of("game 1 2 2 1;deck a1 a1 a1 a2;lives 3");
        useless.hint(1, 1, 1);
        due("a 1 can be played", useless.knows(1, 0), 1);
        useless.hint(0, 1, 1);
        useless.play(0);
        due("now it is useless", useless.knows(1, 0), 2);
        due("a drawn card", useless.knows(0, 0), 0);
        HintTeam lost = of("game 2 2 2 1;deck a2 a1 a1 b1 b2;lives 3");
        lost.discard(0);
        lost.hint(0, 0, 0);
        about = "promise 19";
        due("a2 is in the heap, one a1 is seen", lost.thinks(0, 0), 1);
        about = "promise 21";
        due("it is an a1", lost.knows(0, 0), 1);
        due("a1, b1 or b2", lost.knows(1, 0), 0);
        about = "promise 19";
        HintTeam heap = of("game 1 3 2 1;deck a3 a1 a2 a1;lives 3");
        heap.discard(0);
        due("a card of the heap is seen", heap.thinks(1, 0), 1);
        due("a1 and a2", heap.thinks(0, 0), 2);
    }

    private static void words() {
        about = "promise 22";
        HintTeam team = of("game 2 3 2 2;deck a1 b1 a2 b2 a3 b3 a1 b1;tokens 3 2;rank 2 1;color 1 0");
        due("color 0", team.wordsLeft(0, 0), 99);
        due("color 1", team.wordsLeft(0, 1), 0);
        due("rank 2", team.wordsLeft(1, 2), 1);
        about = "promise 23";
        due("rank 2 for player 1", team.touches(1, 1, 2), 3);
        due("rank 1 for player 1", team.touches(1, 1, 1), 0);
        due("color 1 for player 1", team.touches(1, 0, 1), 2);
        due("the own hand", team.touches(0, 1, 1), 3);
        about = "promise 24";
        due("rank 1 for player 0", team.tells(0, 1, 1), 2);
        due("rank 2 for player 1", team.tells(1, 1, 2), 0);
        due("color 0 for player 0", team.tells(0, 0, 0), 0);
        due("rank 3, which touches nothing", team.tells(0, 1, 3), 2);
        team.hint(1, 1, 2);
        about = "promise 22";
        due("rank 2 behind", team.wordsLeft(1, 2), 0);
        team.hint(0, 1, 1);
        due("rank 1 behind", team.wordsLeft(1, 1), 98);
        about = "promise 24";
        due("it is known already", team.tells(0, 1, 1), 0);
        team.play(0);
        due("color 1 for b1, as a1 is played", team.tells(0, 0, 1), 1);
        due("color 0, which leaves b1", team.tells(0, 0, 0), 1);
        due("rank 2 for player 1", team.tells(1, 1, 2), 0);
        due("color 0 for a2", team.tells(1, 0, 0), 1);
        fails("tells(2, 0, 0)", INDEX, () -> team.tells(2, 0, 0));
        fails("tells(-1, 7, 0)", INDEX, () -> team.tells(-1, 7, 0));
        fails("tells(0, 0, 2)", ARGUMENT, () -> team.tells(0, 0, 2));
        about = "promise 23";
        fails("touches(2, 0, 5)", INDEX, () -> team.touches(2, 0, 5));
        fails("touches(1, 1, 0)", ARGUMENT, () -> team.touches(1, 1, 0));
        fails("touches(1, 2, 1)", ARGUMENT, () -> team.touches(1, 2, 1));
        about = "promise 22";
        fails("wordsLeft(0, -1)", ARGUMENT, () -> team.wordsLeft(0, -1));
        fails("wordsLeft(0, 2)", ARGUMENT, () -> team.wordsLeft(0, 2));
        fails("wordsLeft(1, 0)", ARGUMENT, () -> team.wordsLeft(1, 0));
        fails("wordsLeft(1, 4)", ARGUMENT, () -> team.wordsLeft(1, 4));
        fails("wordsLeft(2, 1)", ARGUMENT, () -> team.wordsLeft(2, 1));
        fails("wordsLeft(-1, 1)", ARGUMENT, () -> team.wordsLeft(-1, 1));
    }

    private static void playing() {
        about = "promise 25";
        HintTeam team = of("game 1 2 2 2;deck a2 a1 a2 a1 a2 a1;tokens 4 2;lives 2");
        fails("play(2)", INDEX, () -> team.play(2));
        fails("play(-1)", INDEX, () -> team.play(-1));
        due("nothing changed", team.count(8), 0);
        due("a card that cannot be played", team.play(0), 0);
        due("lives", team.count(6), 1);
        due("heap", team.copies(0, 2, 1), 1);
        due("tokens", team.count(5), 2);
        due("drawn", team.card(0, 1), 2);
        due("a card that can be played", team.play(1), 1);
        due("drawn", team.card(1, 1), 1);
        due("tokens", team.count(5), 2);
        due("no cards left", team.count(4), 0);
        due("the last rank", team.play(1), 2);
        due("a token comes back", team.count(5), 3);
        due("over", team.play(0), HintTeam.OVER);
        due("over, no such place", team.play(77), HintTeam.OVER);
        HintTeam full = of("game 2 1 2 1;deck a1 b1 a1;tokens 3 3");
        due("the last rank", full.play(0), 1);
        due("no token beyond MOST", full.count(5), 3);
        due("none came back", full.total(4), 0);
    }

    private static void discarding() {
        about = "promise 26";
        HintTeam team = of("game 1 2 2 2;deck a2 a1 a2 a1 a2;tokens 4 3;lives 2");
        fails("discard(2)", INDEX, () -> team.discard(2));
        fails("discard(-1)", INDEX, () -> team.discard(-1));
        due("discard(1)", team.discard(1), 4);
        due("heap", team.copies(0, 1, 1), 1);
        due("drawn", team.card(0, 1), 2);
        due("no token beyond MOST", team.discard(0), 4);
        due("the hand gets smaller", team.hand(1), 1);
        due("turns left", team.count(9), 1);
        due("turn", team.turnOf(), 0);
        team.discard(0);
        due("over", team.discard(0), HintTeam.OVER);
        due("over, no such place", team.discard(-5), HintTeam.OVER);
    }

    private static void hinting() {
        about = "promise 27";
        HintTeam team = of("game 2 2 3 2;deck a1 a2 b1 a1 b2 b2 a1 a1;tokens 3 3;color 1 1");
        fails("hint(3, 0, 0)", INDEX, () -> team.hint(3, 0, 0));
        fails("hint(-1, 5, 0)", INDEX, () -> team.hint(-1, 5, 0));
        fails("hint to oneself", INDEX, () -> team.hint(0, 0, 9));
        fails("hint(1, 0, 2)", ARGUMENT, () -> team.hint(1, 0, 2));
        fails("hint(1, 2, 1)", ARGUMENT, () -> team.hint(1, 2, 1));
        fails("hint(1, 1, 0)", ARGUMENT, () -> team.hint(1, 1, 0));
        due("it touches no card", team.hint(1, 1, 2), HintTeam.NO_WORD);
        due("nothing changed", team.count(5), 3);
        due("two cards", team.hint(2, 0, 1), 2);
        due("tokens", team.count(5), 2);
        due("turn", team.turnOf(), 1);
        due("the word is used up", team.hint(2, 0, 1), HintTeam.NO_WORD);
        due("one card", team.hint(0, 1, 1), 1);
        due("two cards", team.hint(1, 1, 1), 2);
        due("no tokens", team.hint(1, 0, 1), HintTeam.NO_TOKEN);
        fails("no such word, no tokens", ARGUMENT, () -> team.hint(1, 1, 3));
        team.follow(100);
        due("over", team.hint(0, 0, 0), HintTeam.OVER);
        due("over", team.hint(2, 1, 2), HintTeam.OVER);
        fails("over, no such player", INDEX, () -> team.hint(3, 0, 0));
        fails("over, no such word", ARGUMENT, () -> team.hint(1, 0, 2));
    }

    private static void passing() {
        about = "promise 28";
        HintTeam team = of("game 2 2 3 1;deck a1 b1 a2;tokens 2 1;rank 2 0;color 0 0;color 1 0");
        due("cards", team.pass(), HintTeam.HAS_CARDS);
        team.play(0);
        team.play(0);
        team.play(0);
        due("over", team.pass(), HintTeam.OVER);
        // The last round begins behind the turn that drew b1: players 1, 2 and 0 have a turn each.
        HintTeam last = of("game 2 2 3 1;deck a1 b1 a2 b1;tokens 2 1;lives 5");
        last.play(0);
        due("turns left", last.count(9), 3);
        last.play(0);
        last.hint(0, 1, 1);
        due("one turn left", last.count(9), 1);
        due("cards", last.pass(), HintTeam.HAS_CARDS);
        last.discard(0);
        due("over", last.over(), 3);
    }

    private static void advice() {
        about = "promise 29";
        HintTeam team = of(PLAIN);
        fails("advice(-1)", ARGUMENT, () -> team.advice(-1));
        fails("advice(4)", ARGUMENT, () -> team.advice(4));
        // No hint tells anything to player 1; nothing is known; the first card is untouched.
        advised("untouched", team, 1, 0, -1, -1);
        team.hint(1, 1, 2);
        advised("the hint that tells both 1", team, 2, 0, 1, 1);
        team.hint(0, 1, 1);
        advised("known", team, 0, 0, -1, -1);
        team.play(0);
        advised("no tokens, all touched, nothing useless", team, 1, 0, -1, -1);
        team.follow(100);
        due("over", team.advice(0), HintTeam.OVER);
        due("over", team.advice(3), HintTeam.OVER);

        HintTeam order = of("game 2 2 3 1;deck b2 a1 b1 a2 b2 a1 b1;tokens 5 5");
        advised("the next player", order, 2, 1, 1, 1);
        order.hint(2, 1, 1);
        advised("player 2 knows it, b2 of player 0 cannot be played", order, 1, 0, -1, -1);
        order = of("game 2 2 3 1;deck b2 a1 b1 b2 a1 b1;tokens 5 5");
        advised("no a2: colors before ranks", order, 2, 1, 0, 0);
        order = of("game 2 2 3 1;deck b2 a2 b1 a1 a2 b2 a1 b1;tokens 5 5");
        order.discard(0);
        advised("round by round", order, 2, 2, 1, 1);
        order = of("game 2 2 3 2;deck b2 b2 a1 a2 a1 b1 a2 b2 a1 b1;tokens 5 5");
        advised("the one that tells most", order, 2, 2, 1, 1);
        order = of("game 2 2 3 2;deck b2 b2 a1 a2 a1 b1 a2 b2 a1 b1;tokens 5 5;rank 1 0");
        advised("rank 2 tells that the others are 1", order, 2, 1, 1, 2);
        order = of("game 2 2 3 2;deck b2 b2 a1 a2 a1 b1 a2 b2 a1 b1;tokens 5 5;rank 1 0;rank 2 0");
        advised("not without words", order, 1, 0, -1, -1);
        order = of("game 2 2 3 2;deck b2 b2 a1 a2 a1 b1 a2 b2 a1 b1;tokens 5 0");
        advised("not without tokens", order, 1, 0, -1, -1);
        useless();
        touchedHands();
    }

    private static void advised(String what, HintTeam team, int kind, int target, int word, int value) {
        int[] want = {kind, target, word, value};
        for (int k = 0; k < 4; k++) {
            due(what + ", advice(" + k + ")", team.advice(k), want[k]);
        }
    }

    private static void useless() {
        // Player 0 plays one a1 and knows then that the other one is useless.
        HintTeam team = of("game 1 3 2 3;deck a2 a1 a1 a3 a3 a3 a2 a2 a3 a3;tokens 3 1");
        team.discard(0);
        team.hint(0, 1, 1);
        advised("play a1", team, 0, 0, -1, -1);
        team.play(0);
        team.discard(0);
        due("the first card is touched", team.isTouched(0, 0), true);
        due("the second one is not", team.isTouched(0, 1), false);
        advised("useless before untouched", team, 1, 0, -1, -1);
    }

    private static void touchedHands() {
        HintTeam team = of("game 2 3 2 1;deck a3 b3 a1 b1 a2 b2;tokens 3 3");
        advised("untouched", team, 1, 0, -1, -1);
        team.hint(1, 1, 3);
        team.hint(0, 1, 3);
        // Both have touched cards of which they know only that they are 3.
        advised("the first hint that can be given", team, 2, 1, 0, 1);
        team.hint(1, 0, 1);
        advised("no tokens: place 0", team, 1, 0, -1, -1);
    }

    private static void following() {
        about = "promise 30";
        HintTeam team = of(PLAIN);
        fails("follow(0)", ARGUMENT, () -> team.follow(0));
        fails("follow(101)", ARGUMENT, () -> team.follow(101));
        fails("follow(-3)", ARGUMENT, () -> team.follow(-3));
        due("one turn", team.follow(1), 1);
        due("turns", team.count(8), 1);
        due("log", team.logPart(0, 1), 1);
        about = "promise 31";
        int seen = team.foreseen();
        due("nothing changes", team.count(8), 1);
        due("nothing to take back more", team.count(10), 1);
        about = "promise 30";
        int taken = team.follow(100);
        due("over", team.over() != 0, true);
        due("turns", team.count(8), taken + 1);
        due("over already", team.follow(100), 0);
        about = "promise 31";
        due("foreseen", seen, team.count(7));
        due("foreseen when it is over", team.foreseen(), team.count(7));
        about = "promise 30";
        due("one by one", team.undo(), Math.min(taken, 19));
        due("one turn less", team.count(8), taken);
        about = "promise 31";
        // Player 0 tells rank 1 to player 1, who plays it; then rank 2 likewise; then a3 is discarded, as nothing
        // is known of it, and player 1 and player 0 discard an a1 each.
        HintTeam easy = of("game 1 3 2 1;deck a3 a1 a2 a1 a1");
        due("score", easy.foreseen(), 2);
        due("turns", easy.follow(100), 7);
        due("score", easy.count(7), 2);
        due("discarded", easy.total(2), 3);
    }

    private static void boundAndPace() {
        about = "promise 32";
        HintTeam team = of("game 2 4 2 2;deck a1 a2 a1 a3 b1 b3 a4;lives 5");
        due("a4 and b1", team.bound(), 5);
        about = "promise 33";
        due("0 + 3 + 2 - 5", team.pace(), 0);
        team.discard(0);
        about = "promise 32";
        due("one a1 is left", team.bound(), 5);
        team.play(0);
        about = "promise 33";
        due("1 + 1 + 2 - 5", team.pace(), -1);
        team.discard(0);
        about = "promise 32";
        due("a2 is lost: a1 and b1", team.bound(), 2);
        about = "promise 33";
        due("1 + 0 + 2 - 2", team.pace(), 1);
    }

    private static void values() {
        about = "promise 34";
        // Nothing can be drawn: player 0 discards or plays a1, player 1 likewise.
        HintTeam team = of("game 1 2 2 1;deck a1 a2;tokens 1 0");
        due("both play", team.value(), 2);
        about = "promise 35";
        // The present one; a1 played or discarded; behind the one a2 played or discarded, behind the other a2
        // discarded or, as a token came back, a hint.
        due("positions", team.positions(), 7);
        about = "promise 34";
        due("a2 before a1", of("game 1 2 2 1;deck a2 a1;tokens 1 0").value(), 1);
        // With a token player 0 can give a hint, and player 1 plays a1; it is over then.
        HintTeam hint = of("game 1 2 2 1;deck a2 a1;tokens 1 1");
        due("a hint, a1", hint.value(), 1);
        HintTeam drawn = of("game 1 2 2 1;deck a2 a1 a2;tokens 1 1");
        due("the other a2 is drawn", drawn.value(), 2);
        about = "promise 35";
        due("words do not matter", of("game 1 2 2 1;deck a2 a1;tokens 1 1;color 0 0;rank 1 0;rank 2 0").positions(),
                hint.positions());
        due("a new game of one pile", of("game 1 1 2 1;deck a1 a1;tokens 1 0").positions(), 6);
        due("tokens that came back tell positions", of("game 1 1 2 1;deck a1 a1;tokens 9 5").positions(), 10);
        HintTeam big = of("game 4 5 4 5;deck " + "a1 b2 c3 d4 ".repeat(10));
        due("too many", big.positions(), HintTeam.UNKNOWN);
        HintTeam most = of("game 2 2 2 2;deck b1 b1 a1 a2 a2 b2 a2 b2;tokens 2 1");
        due("just not too many", most.positions(), 4000);
        HintTeam more = of("game 1 3 2 2;deck a1 a3 a1 a2 a3 a3 a3 a2;tokens 3 3");
        due("one too many", more.positions(), HintTeam.UNKNOWN);
        about = "promise 34";
        due("just not too many", most.value(), 4);
        due("one too many", more.value(), HintTeam.UNKNOWN);
        due("one less behind a move", more.valueBehind(0, 0), 3);
        due("too many", big.value(), HintTeam.UNKNOWN);
        due("nothing changed", big.count(8), 0);
        HintTeam over = of("game 2 1 2 1;deck a1 b1;lives 1");
        over.play(0);
        over.discard(0);
        due("over", over.value(), 1);
        about = "promise 35";
        due("over", over.positions(), 1);
    }

    private static void valuesBehind() {
        about = "promise 36";
        HintTeam team = of("game 1 2 2 1;deck a1 a2 a1;tokens 1 1");
        due("play a1", team.valueBehind(0, 0), 2);
        due("discard a1", team.valueBehind(1, 0), 1);
        due("no such place", team.valueBehind(0, 1), HintTeam.NOT_SENSIBLE);
        due("no such place", team.valueBehind(1, -1), HintTeam.NOT_SENSIBLE);
        due("no such place", team.valueBehind(1, Integer.MIN_VALUE), HintTeam.NOT_SENSIBLE);
        due("a hint", team.valueBehind(2, -77), 1);
        due("pass with cards", team.valueBehind(3, 0), HintTeam.NOT_SENSIBLE);
        fails("kind 4", ARGUMENT, () -> team.valueBehind(4, 0));
        fails("kind -1", ARGUMENT, () -> team.valueBehind(-1, 0));
        HintTeam other = of("game 1 2 2 1;deck a2 a1 a1;tokens 1 0");
        due("a2 cannot be played", other.valueBehind(0, 0), HintTeam.NOT_SENSIBLE);
        due("no tokens", other.valueBehind(2, 0), HintTeam.NOT_SENSIBLE);
        other.play(0);
        due("nothing changed", other.count(8), 1);
        HintTeam big = of("game 4 5 4 5;deck " + "a1 b2 c3 d4 ".repeat(10));
        due("too many", big.valueBehind(0, 0), HintTeam.UNKNOWN);
        due("not sensible", big.valueBehind(0, 1), HintTeam.NOT_SENSIBLE);
        HintTeam over = of("game 1 1 2 1;deck a1 a1");
        over.play(0);
        due("over", over.valueBehind(0, 0), HintTeam.OVER);
        due("over", over.valueBehind(3, 9), HintTeam.OVER);
        fails("over, kind 4", ARGUMENT, () -> over.valueBehind(4, 0));
    }

    private static void bestMoves() {
        about = "promise 37";
        HintTeam team = of("game 1 2 2 2;deck a2 a1 a2 a2;tokens 1 1");
        due("play", team.bestMove(0), 0);
        due("place", team.bestMove(1), 1);
        HintTeam hint = of("game 1 2 2 1;deck a2 a1 a2;tokens 2 2");
        // Discarding a2 draws the other one, so it is the first move that leads to 2.
        due("discard", hint.bestMove(0), 1);
        due("place", hint.bestMove(1), 0);
        HintTeam wait = of("game 1 3 2 1;deck a2 a1 a1 a3;tokens 2 2");
        // a2 must stay: player 0 waits for player 1 to play a1.
        due("hint", wait.bestMove(0), 2);
        due("no place", wait.bestMove(1), HintTeam.NONE);
        due("value", wait.value(), 3);
        fails("bestMove(2)", ARGUMENT, () -> team.bestMove(2));
        fails("bestMove(-1)", ARGUMENT, () -> team.bestMove(-1));
        HintTeam big = of("game 4 5 4 5;deck " + "a1 b2 c3 d4 ".repeat(10));
        due("too many", big.bestMove(0), HintTeam.UNKNOWN);
        due("too many", big.bestMove(1), HintTeam.UNKNOWN);
        HintTeam over = of("game 1 1 2 1;deck a1 a1");
        over.play(0);
        due("over", over.bestMove(0), HintTeam.OVER);
        fails("over, bestMove(2)", ARGUMENT, () -> over.bestMove(2));
    }

    private static void totals() {
        about = "promise 38";
        HintTeam team = of("game 2 2 2 2;deck a1 a2 b1 b2 b1 a1 b2 a1;tokens 3 3;lives 3");
        team.discard(1);
        due("discarded", team.total(2), 1);
        due("no token beyond MOST", team.total(4), 0);
        due("a2 was critical", team.total(6), 1);
        team.hint(0, 1, 1);
        due("hints", team.total(3), 1);
        due("touched", team.total(5), 2);
        team.play(0);
        due("played", team.total(0), 1);
        team.play(1);
        due("lost", team.total(1), 1);
        due("b2 was not critical", team.total(6), 1);
        team.discard(0);
        due("b1 was not critical", team.total(6), 1);
        due("a token came back", team.total(4), 1);
        due("discarded", team.total(2), 2);
        fails("total(-1)", ARGUMENT, () -> team.total(-1));
        fails("total(7)", ARGUMENT, () -> team.total(7));
        HintTeam lost = of("game 2 2 2 1;deck b2 a1 b1");
        lost.play(0);
        due("a critical card that is lost", lost.total(6), 1);
        HintTeam whole = of("game 2 1 2 1;deck a1 b1 a1;tokens 3 2");
        whole.play(0);
        due("a token for a whole pile", whole.total(4), 1);
    }

    private static void logged(HintTeam team, int index, int player, int kind, int what, int word) {
        int[] due = {player, kind, what, word};
        for (int k = 0; k < 4; k++) {
            due("logPart(" + index + ", " + k + ")", team.logPart(index, k), due[k]);
        }
    }

    private static void logs() {
        about = "promise 39";
        HintTeam team = of("game 2 2 2 2;deck a1 a2 b1 b2 b1 a1 b2 a1;tokens 3 3;lives 3");
        due("no turn", team.logPart(0, 0), HintTeam.NO_VALUE);
        team.play(0);
        team.play(1);
        team.discard(0);
        team.hint(0, 1, 1);
        team.hint(1, 0, 1);
        logged(team, 0, 0, 2, 1, 1);
        logged(team, 1, 1, 2, 0, 11);
        logged(team, 2, 0, 1, 2, -1);
        logged(team, 3, 1, 4, 12, -1);
        logged(team, 4, 0, 0, 1, -1);
        due("no fifth turn", team.logPart(5, 0), HintTeam.NO_VALUE);
        due("logPart(-1, 0)", team.logPart(-1, 0), HintTeam.NO_VALUE);
        due("logPart(MAX, 0)", team.logPart(Integer.MAX_VALUE, 3), HintTeam.NO_VALUE);
        fails("logPart(0, 4)", ARGUMENT, () -> team.logPart(0, 4));
        fails("logPart(0, -1)", ARGUMENT, () -> team.logPart(0, -1));
        fails("logPart(99, 4)", ARGUMENT, () -> team.logPart(99, 4));
        team.undo();
        logged(team, 0, 1, 2, 0, 11);
        due("one turn less", team.logPart(4, 0), HintTeam.NO_VALUE);

        HintTeam longOne = of("game 4 5 2 1;deck " + "a1 b2 c3 d4 ".repeat(10));
        for (int k = 0; k < 33; k++) {
            longOne.discard(0);
        }
        due("the thirtieth one", longOne.logPart(29, 2), longOne.logPart(25, 2));
        due("the turns go by", longOne.logPart(29, 0), 1);
        due("no more than 30", longOne.logPart(30, 0), HintTeam.NO_VALUE);
        // The cards go to the players by turns, so the 4th to be discarded is the 4th of the deck, d4.
        due("the fourth turn", longOne.logPart(29, 2), 34);
        longOne.undo();
        due("undo brings back the third one", longOne.logPart(29, 2), 23);
        longOne.undo();
        longOne.undo();
        due("and the first one", longOne.logPart(29, 2), 1);
        due("no more", longOne.logPart(30, 2), HintTeam.NO_VALUE);
        longOne.undo();
        due("one less", longOne.logPart(29, 2), HintTeam.NO_VALUE);
    }

    private static void undoing() {
        about = "promise 40";
        HintTeam team = of("game 4 5 2 2;deck " + "a1 b2 c3 d4 ".repeat(10) + ";tokens 9 4;lives 5");
        due("nothing yet", team.undo(), HintTeam.NONE);
        team.play(0);
        team.hint(0, 1, 1);
        due("undo()", team.undo(), 1);
        due("the word is back", team.wordsLeft(1, 1), 99);
        due("the token is back", team.count(5), 4);
        due("not touched", team.isTouched(0, 0), false);
        due("ranks", team.ranksOf(0, 0), 31);
        due("total", team.total(3), 0);
        due("undo()", team.undo(), 0);
        due("pile", team.pile(0), 0);
        due("hand", team.card(0, 0), 1);
        due("drawn", team.drawn(0), 1);
        due("turns", team.count(8), 0);
        due("undo()", team.undo(), HintTeam.NONE);
        for (int k = 0; k < 25; k++) {
            team.discard(0);
        }
        due("20 of 25", team.count(10), 20);
        for (int k = 19; k >= 0; k--) {
            due("undo()", team.undo(), k);
        }
        due("undo()", team.undo(), HintTeam.NONE);
        due("turns", team.count(8), 5);
        due("heap", team.total(2), 5);
        team.discard(0);
        team.writeHand(0, true);
        String before = output(team);
        team.append(1);
        due("undo()", team.undo(), 0);
        due("output stays", output(team).equals(before), true);
        due("buffer stays", team.append(0), 1);
        HintTeam over = of("game 1 1 2 1;deck a1 a1");
        over.play(0);
        over.undo();
        due("no longer over", over.over(), 0);
        due("turn", over.turnOf(), 0);
    }

    private static void writing() {
        HintTeam team = of("game 3 4 2 3;deck a1 b2 c4 a1 b2 c3 a1");
        about = "promise 41";
        written(team, 0, true, "a1 b2 c4");
        written(team, 1, true, "a1 b2 c3");
        written(team, 1, false, "?? ?? ??");
        team.hint(1, 0, 1);
        written(team, 1, false, "?? b? ??");
        team.hint(0, 1, 4);
        written(team, 0, false, "?? ?? ?4");
        team.hint(1, 0, 2);
        written(team, 1, false, "a? b? c?");
        team.hint(0, 0, 2);
        written(team, 0, false, "?? ?? c4");
        fails("writeHand(2, true)", INDEX, () -> team.writeHand(2, true));
        fails("writeHand(-1, false)", INDEX, () -> team.writeHand(-1, false));
        due("output stays", output(team).equals("?? ?? c4"), true);
        about = "promise 42";
        due("outputByte(0)", team.outputByte(0), '?');
        due("outputByte(7)", team.outputByte(7), '4');
        due("outputByte(8)", team.outputByte(8), HintTeam.NONE);
        due("outputByte(-1)", team.outputByte(-1), HintTeam.NONE);
        due("outputByte(MAX)", team.outputByte(Integer.MAX_VALUE), HintTeam.NONE);
        about = "promise 41";
        HintTeam one = of("game 1 2 2 5;deck " + "a1 a2 ".repeat(5));
        written(one, 0, false, "a? a? a? a? a?");
        one.discard(0);
        written(one, 0, true, "a2 a1 a2 a1");
        HintTeam empty = of("game 2 1 2 1;deck a1 a1");
        empty.discard(0);
        written(empty, 1, true, "a1");
        written(empty, 0, true, "");
        written(empty, 1, false, "?1");
    }

    private static void snapshots() {
        about = "promise 43";
        HintTeam team = of(PLAIN);
        team.play(0);
        due("saveSnapshot(0)", team.saveSnapshot(0), 1);
        due("turns to take back stay", team.count(10), 1);
        team.hint(0, 1, 1);
        team.writeHand(0, false);
        team.append(32);
        about = "promise 44";
        due("nothing in slot 1", team.restoreSnapshot(1), HintTeam.NONE);
        due("nothing changed", team.count(8), 2);
        due("nothing changed", team.count(10), 2);
        due("restoreSnapshot(0)", team.restoreSnapshot(0), 1);
        due("turns", team.count(8), 1);
        due("nothing can be taken back", team.count(10), 0);
        due("undo()", team.undo(), HintTeam.NONE);
        due("tokens", team.count(5), 2);
        due("words", team.wordsLeft(1, 1), 99);
        due("ranks", team.ranksOf(0, 0), 7);
        due("total", team.total(3), 0);
        due("log", team.logPart(0, 1), 0);
        due("log", team.logPart(1, 1), HintTeam.NO_VALUE);
        due("output stays", output(team).equals("?1 ??"), true);
        due("buffer stays", team.append(0), 1);
        team.play(0);
        due("it can be taken back", team.count(10), 1);
        due("the snapshot stays", team.restoreSnapshot(0), 1);
        due("lives", team.count(6), 3);
        about = "promise 43";
        team.load();
        due("snapshot of another game", load(team, "game 1 1 2 1;deck a1 a1"), 2);
        due("saveSnapshot(1)", team.saveSnapshot(1), 0);
        about = "promise 44";
        due("restoreSnapshot(0)", team.restoreSnapshot(0), 1);
        due("colors", team.count(0), 2);
        due("drawn", team.drawn(0), 13);
        due("restoreSnapshot(1)", team.restoreSnapshot(1), 0);
        due("colors", team.count(0), 1);
        fails("restoreSnapshot(2)", ARGUMENT, () -> team.restoreSnapshot(2));
        fails("restoreSnapshot(-1)", ARGUMENT, () -> team.restoreSnapshot(-1));
        about = "promise 43";
        fails("saveSnapshot(2)", ARGUMENT, () -> team.saveSnapshot(2));
        fails("saveSnapshot(-1)", ARGUMENT, () -> team.saveSnapshot(-1));
        HintTeam fresh = new HintTeam();
        due("a new object", fresh.saveSnapshot(0), 0);
        load(fresh, PLAIN);
        due("a second time", fresh.saveSnapshot(1), 0);
        about = "promise 44";
        due("the new object again", fresh.restoreSnapshot(0), 0);
        due("over", fresh.over(), 3);
        due("no players", fresh.count(2), 0);
        due("the game again", fresh.restoreSnapshot(1), 0);
        due("over", fresh.over(), 0);
    }
}
