/** Promise 4, cards(), and what the terms say of the game of CARDS. */
public final class CardsTest {
    private static final int R = 0;
    private static final int SUM = 1;
    private static final int MIX = 2;

    private static final Check CHECK = new Check("CardsTest");

    public static void main(String[] args) {
        CHECK.test("4: n 3 to 5", CardsTest::everyDeck);
        CHECK.test("4: n below 3", () -> wrongDecks(2, 0, -3, Games.LEAST));
        CHECK.test("4: n above 5", () -> wrongDecks(6, 7, Games.MOST));
        CHECK.test("4: no rounds, also behind rounds of CARDS", CardsTest::noRoundsBehindCards);
        CHECK.test("4: no rounds, also behind rounds of a TABLE", CardsTest::noRoundsBehindTable);
        CHECK.test("4: a smaller deck behind a larger one", CardsTest::smallerDeck);
        CHECK.test("terms: a first round of three cards, place by place", CardsTest::firstRound);
        CHECK.test("terms: a second round: what nobody comes to teaches nothing", CardsTest::secondRound);
        CHECK.test("terms: the greater card wins, in each deck", CardsTest::greaterWins);
        CHECK.test("terms: the chance of a pair, in each deck", CardsTest::chanceOfPair);
        CHECK.test("terms: BEST and GAP ahead of rounds", CardsTest::bestAtFirst);
        CHECK.test("terms: BEST and GAP behind rounds", CardsTest::bestBehindRounds);
        CHECK.end();
    }

    private static void everyDeck() {
        for (int n = 3; n <= 5; n++) {
            Tireless t = new Tireless();
            CHECK.due("cards(" + n + ")", t.cards(n), true);
            int[] due = {2, 0, 0, n, 0, 0, 1};
            for (int what = 0; what < due.length; what++) {
                CHECK.due("about(" + what + ")", t.about(what), due[what]);
            }
            CHECK.due("round()", t.round(), 1);
        }
    }

    private static void wrongDecks(int... decks) {
        for (int n : decks) {
            for (Tireless t : Games.kinds()) {
                CHECK.refused("cards(" + n + ")", t, x -> x.cards(n));
            }
        }
        Tireless t = Games.small();
        t.cards(decks[0]);
        CHECK.due("set behind a wrong cards()", t.set(0, 0, 1), true);
        CHECK.due("column behind a wrong cards()", t.column(2), true);
    }

    private static void allNothing(Tireless t, int n) {
        CHECK.due("rounds", t.about(4), 0);
        CHECK.due("bits", t.about(6), 1);
        for (int place = 0; place < 4 * n; place++) {
            CHECK.ways("R at " + place, t, R, place, 0, 1, 0, 1);
            CHECK.ways("SUM at " + place, t, SUM, place, 0, 1, 0, 1);
        }
    }

    private static void noRoundsBehindCards() {
        for (int n = 3; n <= 5; n++) {
            Tireless t = Games.cards(n, 3);
            CHECK.due("cards(" + n + ") anew", t.cards(n), true);
            allNothing(t, n);
            CHECK.due("round()", t.round(), 1);
        }
    }

    private static void noRoundsBehindTable() {
        Tireless t = Games.small();
        t.round();
        t.column(0);
        t.row(1);
        CHECK.due("cards(5)", t.cards(5), true);
        allNothing(t, 5);
        CHECK.due("rows", t.about(1), 0);
        CHECK.due("columns", t.about(2), 0);
        CHECK.due("span", t.about(5), 0);
        CHECK.due("round()", t.round(), 1);
    }

    private static void smallerDeck() {
        Tireless t = Games.cards(5, 3);
        t.cards(3);
        t.round();
        t.view(0, 0, 0);
        Tireless fresh = Games.cards(3, 1);
        fresh.view(0, 0, 0);
        CHECK.due("as in a new object", t.state().equals(fresh.state()), true);
        t.cards(4);
        t.round();
        t.view(0, 0, 0);
        fresh = Games.cards(4, 1);
        fresh.view(0, 0, 0);
        CHECK.due("a larger deck, as in a new object", t.state().equals(fresh.state()), true);
    }

    private static void firstRound() {
        Tireless t = Games.cards(3, 1);
        long[][] regretsOfBet = {{1, 8}, {1, 24}, {-1, 12}, {-1, 12}, {1, 8}, {1, 24}, {1, 12}, {1, 12},
            {1, 8}, {1, 24}, {1, 4}, {1, 4}};
        for (int place = 0; place < 12; place++) {
            long top = regretsOfBet[place][0];
            long bottom = regretsOfBet[place][1];
            CHECK.ways("R at " + place, t, R, place, -top, bottom, top, bottom);
            int half = place % 4 == 3 ? 4 : 2;
            CHECK.ways("SUM at " + place, t, SUM, place, 1, half, 1, half);
        }
    }

    /** All of A's MIXES bet first, so nobody comes behind a pass; B's places there still get their MIX. */
    private static void secondRound() {
        Tireless t = Games.cards(3, 2);
        CHECK.ways("R at 0", t, R, 0, 5, 24, 1, 8);
        CHECK.ways("R at 1, not come to", t, R, 1, -1, 24, 1, 24);
        CHECK.ways("R at 10", t, R, 10, -5, 4, 1, 4);
        CHECK.ways("SUM at 0", t, SUM, 0, 1, 2, 3, 2);
        CHECK.ways("SUM at 1, B's: counts 1", t, SUM, 1, 1, 2, 3, 2);
        CHECK.ways("SUM at 2, B's: counts 1", t, SUM, 2, 3, 2, 1, 2);
        CHECK.ways("SUM at 3, A's, who does not come there", t, SUM, 3, 1, 4, 1, 4);
        CHECK.ways("SUM at 11, A's, who does not come there", t, SUM, 11, 1, 4, 1, 4);
        CHECK.ways("R at 3, where B bets with each card", t, R, 3, 1, 12, -5, 12);
    }

    private static void greaterWins() {
        for (int n = 3; n <= 5; n++) {
            Tireless t = Games.cards(n, 1);
            CHECK.ways("card 0 gives up behind a bet", t, MIX, 2, 1, 1, 0, 1);
            CHECK.ways("card 0 gives up behind pass and bet", t, MIX, 3, 1, 1, 0, 1);
            CHECK.ways("the greatest calls behind a bet", t, MIX, 4 * n - 2, 0, 1, 1, 1);
            CHECK.ways("the greatest calls behind pass and bet", t, MIX, 4 * n - 1, 0, 1, 1, 1);
        }
    }

    /**
     * The greatest card behind a bet, all MIXES 1 / 2: a call gets 2, giving up gets -1, and A bets in
     * half of the n - 1 pairs, each of the chance 1 / (n * (n - 1)). So R of the call is 3 / (4 * n).
     */
    private static void chanceOfPair() {
        CHECK.ways("n 3", Games.cards(3, 1), R, 10, -1, 4, 1, 4);
        CHECK.ways("n 4", Games.cards(4, 1), R, 14, -3, 16, 3, 16);
        CHECK.ways("n 5", Games.cards(5, 1), R, 18, -3, 20, 3, 20);
    }

    private static void bestAtFirst() {
        Tireless t = Games.cards(3, 0);
        CHECK.view("BEST of A", t, new int[] {4, 0, 0}, 1, 2);
        CHECK.view("BEST of B", t, new int[] {4, 1, 0}, 5, 12);
        CHECK.view("GAP", t, new int[] {5, 0, 0}, 11, 12);
    }

    /**
     * The MEANS behind two rounds: A bets 3 / 4 first, 1 / 2 at 3, 7, 11; B bets 3 / 4 behind a pass,
     * and behind a bet calls 1 / 4 with card 0, 3 / 4 with the others.
     */
    private static void bestBehindRounds() {
        Tireless t = Games.cards(3, 2);
        CHECK.view("BEST of A", t, new int[] {4, 0, 0}, 1, 4);
        CHECK.view("BEST of B", t, new int[] {4, 1, 0}, 3, 8);
        CHECK.view("GAP", t, new int[] {5, 0, 0}, 5, 8);
    }
}
