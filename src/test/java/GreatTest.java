import java.util.Random;

/**
 * What the terms and promises 5 to 7 say of GREAT, in true play: rounds of which one part alone has 256
 * bits (they are done) or 257 (they are not), and that a round that is not done does nothing.
 */
public final class GreatTest {
    private static final int TOP_ABOVE = 0;
    private static final int TOP_BELOW = 1;
    private static final int BOTTOM = 2;
    private static final int SUM_TOP = 3;

    private static final Check CHECK = new Check("GreatTest");

    public static void main(String[] args) {
        columnAtTheEdge();
        rowAtTheEdge();
        roundAtTheEdge();
        CHECK.test("7: what is GREAT of A alone: nothing is done for B either",
                () -> oneAloneIsGreat(0, "3x2 1 6 1 -3 6 2", "b b b b b b b"));
        CHECK.test("7: what is GREAT of B alone: nothing is done for A either",
                () -> oneAloneIsGreat(1, "2x3 -1 1 6 4 -3 4", "b b b b b b b"));
        CHECK.test("5: GREAT in one column, but not in another", () -> alikeFits("c0", "c1", "c2"));
        CHECK.test("6: GREAT in one row, but not in another", () -> alikeFits("r0", "r1", "r2"));
        CHECK.test("7: a round of both that fits behind one that did not", GreatTest::anotherRoundFits);
        CHECK.test("7: a round of CARDS with three cards", () -> cardsToTheEnd(3, 19));
        CHECK.test("7: a round of CARDS with four cards", () -> cardsToTheEnd(4, 11));
        CHECK.test("7: a round of CARDS with five cards", () -> cardsToTheEnd(5, 9));
        CHECK.test("7: one R of one place of CARDS alone is GREAT", GreatTest::oneOfCardsIsGreat);
        CHECK.test("a game behind one that came to its end", GreatTest::newGame);
        CHECK.end();
    }

    private static void edge(int promise, int part, int bits, String game, String moves) {
        CHECK.test(promise + ": the " + Model.PARTS[part] + " alone has " + bits + " bits",
                () -> lastMove(part, bits, game, moves));
    }

    private static void columnAtTheEdge() {
        edge(5, TOP_ABOVE, 256, "3x2 17 -23 9 -21 -1 5", "c0 c1 c0 c0 c1 c1 c0");
        edge(5, TOP_BELOW, 256, "3x2 2 5 -5 0 4 3", "r2 r0 b c1 r1 b c1 c1 b c0");
        edge(5, BOTTOM, 256, "3x2 2 1 1 2 0 2", "b b c1 c0 b c0 r0 c0 b b b r0 r0 b r0 b c1 c0 b b r0 c1 b b c1 b "
                + "r1 c1 r0 c1 b r2 r0 r2 b r0 c0");
        edge(5, SUM_TOP, 256, "3x2 2 -1 -6 5 -6 6", "c1 b c1 b b r1 c1 c0 c1 c1");
        edge(5, TOP_ABOVE, 257, "2x3 2 1 -3 -1 0 1", "c1 c2 c1 c1 c0 c2 c1 c0 c2");
        edge(5, TOP_BELOW, 257, "3x2 -6 5 1 -3 0 4", "c0 c1 c1 c1 c1 c1 c0");
        edge(5, SUM_TOP, 257, "3x2 24 -3 -24 18 2 5", "c1 c0 c0 c1 c0 c1 c1 c0");
    }

    private static void rowAtTheEdge() {
        edge(6, TOP_ABOVE, 256, "3x2 22 -18 20 15 -18 26", "r1 r2 r0 r2 r0 r1 r1 r0");
        edge(6, TOP_BELOW, 256, "2x3 3 3 -2 -1 3 2", "r1 r0 r1 r0 r0 r1 r1 r0 r1");
        edge(6, BOTTOM, 256, "3x2 2 1 1 2 0 2", "b b c1 c0 b c0 r0 c0 b b b r0 r0 b r0 b c1 c0 b b r0 c1 b b c1 b "
                + "r1 c1 r0 c1 b r2 r0 r2 b r0");
        edge(6, SUM_TOP, 256, "3x2 -1 1 0 -1 -2 2", "r0 c1 b c1 b r2 c1 c0 c0 c1 b b b r2");
        edge(6, TOP_ABOVE, 257, "2x3 -11 5 -4 14 -18 -10", "r1 r0 r0 r0 r1 r0 r1");
        edge(6, TOP_BELOW, 257, "2x3 6 6 -5 -4 6 4", "c1 b r1 r0 b b r1 r0");
        edge(6, BOTTOM, 257, "3x2 1 -2 -1 2 -1 -1", "c0 b b c0 r1 b c0 c1 c0 c0 b r0");
        edge(6, SUM_TOP, 257, "2x3 0 -1 2 -2 0 -3", "r0 r1 r1 r1 r0 r0 r1 r0 r0");
    }

    private static void roundAtTheEdge() {
        edge(7, TOP_ABOVE, 256, "3x2 -14 0 -17 -2 17 -23", "b b b b b b b");
        edge(7, TOP_BELOW, 256, "2x3 -5 2 5 2 4 -3", "b b b b b b b b b b");
        edge(7, SUM_TOP, 256, "3x2 -1 1 0 -1 -2 2", "r0 c1 b c1 b r2 c1 c0 c0 c1 b b b");
        edge(7, TOP_ABOVE, 257, "2x2 29 5 2 19", "b b b b b b b b b b b b");
        edge(7, TOP_BELOW, 257, "2x3 -6 0 22 15 -13 7", "b b b b b b b");
        edge(7, SUM_TOP, 257, "3x3 -1 1 -4 -3 0 2 3 -6 -5", "r2 r1 r0 b b r2 c2 b");
    }

    private static void lastMove(int part, int bits, String game, String moves) {
        Beside beside = Beside.told(game);
        String[] each = moves.split(" ");
        playAllButLast(beside, each);
        String before = beside.table.state();
        boolean fits = bits <= 256;
        CHECK.due("the last of " + moves, play(beside, each[each.length - 1]), fits);
        CHECK.due("the state is as before", beside.table.state().equals(before), !fits);
        CHECK.due("rounds", beside.table.about(4), each.length - (fits ? 0 : 1));
        CHECK.due("bits", beside.table.about(6), beside.model.about(6));
        for (int other = 0; other < Model.PARTS.length; other++) {
            int longest = Math.max(beside.model.bitsOfLastRound(0)[other], beside.model.bitsOfLastRound(1)[other]);
            CHECK.due("bits of the " + Model.PARTS[other], longest >= bits, other == part);
        }
        if (fits) {
            seenWhole(beside);
        }
    }

    private static void seenWhole(Beside beside) {
        Ratio[][][] learned = {beside.model.lastRegret, beside.model.lastSum};
        for (int what = 0; what < 2; what++) {
            for (int place = 0; place < 2; place++) {
                for (int way = 0; way < learned[what][place].length; way++) {
                    Ratio due = learned[what][place][way];
                    beside.table.view(what, place, way);
                    CHECK.seen("view(" + what + ", " + place + ", " + way + ")", beside.table, due.top, due.bottom);
                }
            }
        }
    }

    private static void playAllButLast(Beside beside, String[] moves) {
        for (int i = 0; i < moves.length - 1; i++) {
            CHECK.due("move " + i, play(beside, moves[i]), true);
        }
    }

    private static boolean play(Beside beside, String move) {
        boolean got = beside.play(move);
        CHECK.due("move " + move, got, beside.lastOfModel);
        return got;
    }

    private static int longest(Model model, int place) {
        int most = 0;
        for (int bits : model.bitsOfLastRound(place)) {
            most = Math.max(most, bits);
        }
        return most;
    }

    private static void oneAloneIsGreat(int who, String game, String moves) {
        Beside beside = Beside.told(game);
        String[] each = moves.split(" ");
        playAllButLast(beside, each);
        CHECK.refused("the last", beside.table, t -> t.round() != RegretTable.NONE);
        beside.model.round();
        CHECK.due("GREAT of A", longest(beside.model, 0) > 256, who == 0);
        CHECK.due("GREAT of B", longest(beside.model, 1) > 256, who == 1);
    }

    /** A round against numbers that are all alike leaves R as it is: it may fit where another does not. */
    private static void alikeFits(String alike, String... others) {
        int found = 0;
        for (int seed = 0; seed < 60; seed++) {
            Random random = new Random(1000003L * seed);
            StringBuilder game = new StringBuilder("3x3");
            for (int i = 0; i < 9; i++) {
                boolean isAlike = alike.equals("c0") ? i % 3 == 0 : i < 3;
                game.append(' ').append(isAlike ? 7 : random.nextInt(61) - 30);
            }
            Beside beside = Beside.told(game.toString());
            for (int i = 0; i < 20; i++) {
                play(beside, "b");
                boolean fits = play(beside, others[random.nextInt(others.length)]);
                found += !fits && play(beside, alike) ? 1 : 0;
            }
        }
        CHECK.due("some move fits behind a refused one", found > 0, true);
    }

    /** Behind a round() that is refused, others change the state and then round() is asked again. */
    private static void anotherRoundFits() {
        int found = 0;
        for (int seed = 0; seed < 300; seed++) {
            Random random = new Random(seed);
            Beside beside = new Beside(2, 3, random, 3);
            boolean refused = false;
            for (int i = 0; i < 40; i++) {
                boolean fits = play(beside, "b");
                found += refused && fits ? 1 : 0;
                refused = !fits;
                if (refused) {
                    play(beside, "c" + random.nextInt(3));
                    play(beside, "r" + random.nextInt(2));
                }
            }
        }
        CHECK.due("some round fits behind a refused one", found > 0, true);
    }

    private static void cardsToTheEnd(int n, int rounds) {
        Tireless t = Games.cards(n, 0);
        for (int i = 1; i <= rounds; i++) {
            CHECK.due("round()", t.round(), i);
        }
        t.view(5, 0, 0);
        for (int i = 0; i < 3; i++) {
            CHECK.refused("round() " + (rounds + 1), t, x -> x.round() != RegretTable.NONE);
        }
        CHECK.due("rounds", t.about(4), rounds);
    }

    private static void oneOfCardsIsGreat() {
        Model model = new Model();
        model.cards(3);
        while (model.round() != -1) {
            CHECK.due("rounds", model.about(4) <= 19, true);
        }
        for (int place = 0; place < 12; place++) {
            CHECK.due("GREAT at " + place, longest(model, place) > 256, place == 1);
        }
        cardsToTheEnd(3, 19);
    }

    private static void newGame() {
        Tireless t = Games.cards(5, 10);
        t.cards(5);
        CHECK.due("round() of new cards", t.round(), 1);
        for (int i = 0; i < 20; i++) {
            t.round();
        }
        CHECK.due("round() of the old game", t.round(), RegretTable.NONE);
        t.table(2, 2);
        CHECK.due("round() of a table", t.round(), 1);
    }
}
