import java.util.Random;

/** Promise 13: about(), and the terms' SPAN. */
public final class AboutTest {
    private static final Check CHECK = new Check("AboutTest");

    public static void main(String[] args) {
        CHECK.test("no game", () -> all(new Tireless(), 0, 0, 0, 0, 0, 0, 0));
        CHECK.test("a TABLE", AboutTest::table);
        CHECK.test("CARDS", AboutTest::cards);
        CHECK.test("3: n is 0 without CARDS, behind them too", AboutTest::noDeck);
        CHECK.test("1, 2: rows and columns are 0 without a TABLE, behind one too", AboutTest::noTable);
        CHECK.test("4: rounds", AboutTest::rounds);
        CHECK.test("5: SPAN of one number", () -> span(0, 1, 1, -5));
        CHECK.test("5: SPAN of numbers that are alike", () -> span(0, 2, 2, 7, 7, 7, 7));
        CHECK.test("5: SPAN of numbers all below 0", () -> span(4, 2, 2, -5, -1, -3, -2));
        CHECK.test("5: SPAN of numbers all above 0", () -> span(4, 2, 2, 5, 1, 3, 2));
        CHECK.test("5: SPAN of the outermost numbers", () -> span(2000, 1, 2, -1000, 1000));
        CHECK.test("5: SPAN: numbers that were not set are 0", () -> span(9, 2, 2, 5, 9));
        CHECK.test("5: SPAN: each number counts", AboutTest::spanOfEachNumber);
        CHECK.test("5: SPAN is 0 without a TABLE", AboutTest::spanWithoutTable);
        CHECK.test("6: 1 ahead of rounds", AboutTest::bitsAtFirst);
        CHECK.test("6: an R or a SUM, a numerator or a denominator, of A or of B", AboutTest::greatestBits);
        CHECK.test("6: behind a new game", AboutTest::bitsBehindNewGame);
        CHECK.test("NONE for another what", AboutTest::wrongWhat);
        CHECK.end();
    }

    private static void all(Tireless t, int... due) {
        for (int what = 0; what < due.length; what++) {
            CHECK.due("about(" + what + ")", t.about(what), due[what]);
        }
    }

    private static void table() {
        Tireless t = Games.small();
        all(t, 1, 2, 3, 0, 0, 6, 1);
        t.column(0);
        t.column(1);
        t.column(2);
        all(t, 1, 2, 3, 0, 3, 6, 6);
        all(Games.table(5, 1), 1, 5, 1, 0, 0, 0, 1);
        all(Games.table(1, 5), 1, 1, 5, 0, 0, 0, 1);
    }

    private static void cards() {
        all(Games.cards(3, 0), 2, 0, 0, 3, 0, 0, 1);
        all(Games.cards(4, 1), 2, 0, 0, 4, 1, 0, 6);
        all(Games.cards(5, 9), 2, 0, 0, 5, 9, 0, 177);
    }

    private static void noDeck() {
        CHECK.due("n of a table", Games.small().about(3), 0);
        Tireless t = Games.cards(4, 1);
        t.table(1, 1);
        CHECK.due("n behind cards", t.about(3), 0);
    }

    private static void noTable() {
        Tireless t = Games.small();
        t.cards(3);
        CHECK.due("rows", t.about(1), 0);
        CHECK.due("columns", t.about(2), 0);
    }

    private static void rounds() {
        Tireless t = Games.small();
        t.column(0);
        CHECK.due("behind column()", t.about(4), 1);
        t.row(0);
        CHECK.due("behind row()", t.about(4), 2);
        t.round();
        CHECK.due("behind round()", t.about(4), 3);
        t.column(3);
        CHECK.due("behind a refused one", t.about(4), 3);
        t.cards(3);
        CHECK.due("behind cards()", t.about(4), 0);
    }

    private static void span(int due, int rows, int columns, int... numbers) {
        CHECK.due("span", Games.table(rows, columns, numbers).about(5), due);
    }

    private static void spanOfEachNumber() {
        for (int i = 0; i < 25; i++) {
            for (int v : new int[] {-1000, 1000}) {
                Tireless t = Games.table(5, 5);
                t.set(i / 5, i % 5, v);
                CHECK.due("span", t.about(5), 1000);
            }
        }
    }

    private static void spanWithoutTable() {
        Tireless t = Games.small();
        t.cards(3);
        CHECK.due("span of cards", t.about(5), 0);
        t.table(1, 1);
        CHECK.due("span of a new table", t.about(5), 0);
    }

    private static void bitsAtFirst() {
        CHECK.due("of a table", Games.small().about(6), 1);
        CHECK.due("of the least table", Games.table(1, 1).about(6), 1);
        CHECK.due("of cards", Games.cards(5, 0).about(6), 1);
    }

    /** Games at random beside the model, until each part alone was the longest; a SUM's denominator never is. */
    private static void greatestBits() {
        boolean[][] alone = new boolean[2][Model.PARTS.length];
        for (int run = 0; run < 2000; run++) {
            Random random = new Random(1000003L * run);
            Beside beside = new Beside(2, 3, random, 3);
            for (int i = 0; i < 6; i++) {
                String[] moves = {"b", "c" + random.nextInt(3), "r" + random.nextInt(2)};
                boolean fits = beside.play(moves[random.nextInt(3)]);
                CHECK.due("bits", beside.table.about(6), beside.model.about(6));
                if (fits) {
                    findAlone(beside.model, alone);
                }
            }
        }
        for (int player = 0; player < 2; player++) {
            for (int part = 0; part < 4; part++) {
                CHECK.due(player + ": the " + Model.PARTS[part] + " was the longest alone", alone[player][part], true);
            }
        }
    }

    private static void findAlone(Model model, boolean[][] alone) {
        int longest = model.about(6);
        int count = 0;
        int who = 0;
        int which = 0;
        for (int player = 0; player < 2; player++) {
            int[] bits = model.bitsOfLastRound(player);
            for (int part = 0; part < bits.length; part++) {
                if (bits[part] == longest) {
                    who = player;
                    which = part;
                    count++;
                }
            }
        }
        if (count == 1) {
            alone[who][which] = true;
        }
    }

    private static void bitsBehindNewGame() {
        Tireless t = Games.cards(5, 9);
        t.cards(3);
        CHECK.due("of new cards", t.about(6), 1);
        t.round();
        CHECK.due("of a smaller deck", t.about(6), 5);
        t.table(1, 1);
        CHECK.due("of a table", t.about(6), 1);
    }

    private static void wrongWhat() {
        for (Tireless t : Games.kinds()) {
            for (int wrong : new int[] {-1, 7, 8, Games.LEAST, Games.MOST}) {
                CHECK.due("about(" + wrong + ")", t.about(wrong), RegretTable.NONE);
            }
        }
    }
}
