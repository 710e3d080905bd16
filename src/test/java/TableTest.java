import java.util.function.Predicate;

/** Promises 1 to 3: a new object, table(), set(). */
public final class TableTest {
    private static final Check CHECK = new Check("TableTest");

    public static void main(String[] args) {
        CHECK.test("1: a new object has no game", TableTest::noGame);
        CHECK.test("1: without a game nothing is played, set or viewed", TableTest::nothingWithoutGame);
        CHECK.test("1: a new object knows nothing of another's game", TableTest::objectsApart);
        CHECK.test("2: 1 to 5 rows and columns", TableTest::everySize);
        CHECK.test("2: rows below 1", () -> wrongSizes(new int[][] {{0, 3}, {-1, 3}, {Games.LEAST, 3}}));
        CHECK.test("2: rows above 5", () -> wrongSizes(new int[][] {{6, 3}, {Games.MOST, 3}}));
        CHECK.test("2: columns below 1", () -> wrongSizes(new int[][] {{3, 0}, {3, -1}, {3, Games.LEAST}}));
        CHECK.test("2: columns above 5", () -> wrongSizes(new int[][] {{3, 6}, {3, Games.MOST}}));
        CHECK.test("2: both wrong", () -> wrongSizes(new int[][] {{0, 0}, {6, 6}, {0, 6}, {6, 0}, {-1, -1}}));
        CHECK.test("2: all numbers are 0, also behind a game with others", TableTest::allNumbersZero);
        CHECK.test("2: no rounds, R or SUM, also behind a game with some", TableTest::noRounds);
        CHECK.test("2: a TABLE behind CARDS", TableTest::tableBehindCards);
        CHECK.test("3: -1000 and 1000", TableTest::outermostNumbers);
        CHECK.test("3: below -1000, above 1000", TableTest::numbersBeyond);
        CHECK.test("3: each of the rows and columns", TableTest::everyCell);
        CHECK.test("3: a row that is none", TableTest::wrongRow);
        CHECK.test("3: a column that is none", TableTest::wrongColumn);
        CHECK.test("3: rows and columns are not mixed up", TableTest::rowsAreNotColumns);
        CHECK.test("3: a number is set again", TableTest::setAgain);
        CHECK.test("3: no game", () -> CHECK.refused("set", new Tireless(), t -> t.set(0, 0, 1)));
        CHECK.test("3: CARDS", TableTest::setWithCards);
        CHECK.test("3: a round was done by column()", () -> setBehind(t -> t.column(0)));
        CHECK.test("3: a round was done by row()", () -> setBehind(t -> t.row(0)));
        CHECK.test("3: a round was done by round()", () -> setBehind(t -> t.round() == 1));
        CHECK.test("3: a round was asked for, but none was done", TableTest::setBehindNoRound);
        CHECK.test("3: behind a new table() it can be done again", TableTest::setBehindTable);
        CHECK.end();
    }

    private static void noGame() {
        Tireless t = new Tireless();
        for (int what = 0; what < 7; what++) {
            CHECK.due("about(" + what + ")", t.about(what), 0);
        }
        CHECK.seen("the view", t, 0, 1);
    }

    private static void nothingWithoutGame() {
        Tireless t = new Tireless();
        CHECK.due("round()", t.round(), RegretTable.NONE);
        CHECK.refused("column(0)", t, x -> x.column(0));
        CHECK.refused("row(0)", t, x -> x.row(0));
        CHECK.refused("set(0, 0, 1)", t, x -> x.set(0, 0, 1));
        for (int what = 0; what < 6; what++) {
            CHECK.due("view(" + what + ", 0, 0)", t.view(what, 0, 0), false);
        }
        for (int what = 0; what < 3; what++) {
            CHECK.due("bound(" + what + ")", t.bound(what), RegretTable.NONE);
        }
        CHECK.due("still no game", t.about(0), 0);
    }

    private static void objectsApart() {
        Tireless one = Games.small();
        one.round();
        one.view(0, 0, 0);
        Tireless other = new Tireless();
        CHECK.due("game", other.about(0), 0);
        CHECK.seen("the view of the other", other, 0, 1);
        other.cards(3);
        other.round();
        CHECK.seen("the view of the one", one, 1, 3);
        CHECK.due("game of the one", one.about(0), 1);
        CHECK.due("rounds of the one", one.about(4), 1);
    }

    private static void everySize() {
        for (int rows = 1; rows <= 5; rows++) {
            for (int columns = 1; columns <= 5; columns++) {
                Tireless t = new Tireless();
                CHECK.due("table(" + rows + ", " + columns + ")", t.table(rows, columns), true);
                CHECK.due("game", t.about(0), 1);
                CHECK.due("rows", t.about(1), rows);
                CHECK.due("columns", t.about(2), columns);
                CHECK.due("round()", t.round(), 1);
            }
        }
    }

    private static void wrongSizes(int[][] sizes) {
        for (int[] size : sizes) {
            for (Tireless t : Games.kinds()) {
                CHECK.refused("table(" + size[0] + ", " + size[1] + ")", t, x -> x.table(size[0], size[1]));
            }
        }
        Tireless t = Games.small();
        t.table(sizes[0][0], sizes[0][1]);
        CHECK.due("set behind a wrong table()", t.set(1, 2, 5), true);
        CHECK.due("round behind a wrong table()", t.round(), 1);
    }

    private static void allNumbersZero() {
        Tireless t = new Tireless();
        for (int from = 5; from >= 1; from--) {
            t.table(from, from);
            for (int i = 0; i < from * from; i++) {
                CHECK.due("set", t.set(i / from, i % from, 100 + i), true);
            }
            CHECK.due("table(5, 5)", t.table(5, 5), true);
            CHECK.due("span", t.about(5), 0);
            t.round();
            CHECK.ways("R of A", t, 0, 0, 0, 1, 0, 1, 0, 1, 0, 1, 0, 1);
            CHECK.ways("R of B", t, 0, 1, 0, 1, 0, 1, 0, 1, 0, 1, 0, 1);
            CHECK.view("BEST of A", t, new int[] {4, 0, 0}, 0, 1);
        }
    }

    private static void noRounds() {
        Tireless t = Games.small();
        t.column(0);
        t.row(1);
        t.round();
        CHECK.due("table(2, 3)", t.table(2, 3), true);
        CHECK.due("rounds", t.about(4), 0);
        CHECK.due("bits", t.about(6), 1);
        for (int what = 0; what <= 1; what++) {
            CHECK.ways("of A", t, what, 0, 0, 1, 0, 1);
            CHECK.ways("of B", t, what, 1, 0, 1, 0, 1, 0, 1);
        }
        CHECK.due("round()", t.round(), 1);
    }

    private static void tableBehindCards() {
        Tireless t = Games.cards(5, 5);
        CHECK.due("table(4, 5)", t.table(4, 5), true);
        int[] due = {1, 4, 5, 0, 0, 0, 1};
        for (int what = 0; what < due.length; what++) {
            CHECK.due("about(" + what + ")", t.about(what), due[what]);
        }
        CHECK.due("a place of cards", t.view(0, 2, 0), false);
        CHECK.ways("R of B", t, 0, 1, 0, 1, 0, 1, 0, 1, 0, 1, 0, 1);
        CHECK.ways("SUM of A", t, 1, 0, 0, 1, 0, 1, 0, 1, 0, 1);
    }

    private static void outermostNumbers() {
        Tireless t = Games.table(2, 1);
        CHECK.due("set(0, 0, 1000)", t.set(0, 0, 1000), true);
        CHECK.due("span", t.about(5), 1000);
        CHECK.due("set(1, 0, -1000)", t.set(1, 0, -1000), true);
        CHECK.due("span", t.about(5), 2000);
        t.column(0);
        CHECK.ways("R", t, 0, 0, 1000, 1, -1000, 1);
    }

    private static void numbersBeyond() {
        Tireless t = Games.small();
        for (int v : new int[] {1001, -1001, Games.LEAST, Games.MOST}) {
            CHECK.refused("set(0, 1, " + v + ")", t, x -> x.set(0, 1, v));
        }
    }

    /** R behind a round against a column, times 5, is 5 * a number less the sum of the column's. */
    private static void everyCell() {
        for (int c = 0; c < 5; c++) {
            Tireless t = new Tireless();
            t.table(5, 5);
            for (int i = 0; i < 25; i++) {
                CHECK.due("set", t.set(i / 5, i % 5, i * i), true);
            }
            t.column(c);
            int sum = 0;
            for (int r = 0; r < 5; r++) {
                sum += (5 * r + c) * (5 * r + c);
            }
            for (int r = 0; r < 5; r++) {
                t.view(0, 0, r);
                CHECK.due("5 * R at " + r + ", " + c, t.times(5), 5L * (5 * r + c) * (5 * r + c) - sum);
            }
        }
    }

    private static void wrongRow() {
        for (int row : new int[] {-1, 2, 5, Games.LEAST, Games.MOST}) {
            CHECK.refused("set(" + row + ", 0, 1)", Games.small(), t -> t.set(row, 0, 1));
        }
        CHECK.due("the last row", Games.small().set(1, 0, 1), true);
    }

    private static void wrongColumn() {
        for (int column : new int[] {-1, 3, 5, Games.LEAST, Games.MOST}) {
            CHECK.refused("set(0, " + column + ", 1)", Games.small(), t -> t.set(0, column, 1));
            CHECK.refused("set(1, " + column + ", 1)", Games.small(), t -> t.set(1, column, 1));
        }
        CHECK.due("the last column", Games.small().set(0, 2, 1), true);
    }

    private static void rowsAreNotColumns() {
        CHECK.due("set(0, 4, 1) of 1 row", Games.table(1, 5).set(0, 4, 1), true);
        CHECK.refused("set(4, 0, 1) of 1 row", Games.table(1, 5), t -> t.set(4, 0, 1));
        CHECK.due("set(4, 0, 1) of 1 column", Games.table(5, 1).set(4, 0, 1), true);
        CHECK.refused("set(0, 4, 1) of 1 column", Games.table(5, 1), t -> t.set(0, 4, 1));
    }

    private static void setAgain() {
        Tireless t = Games.small();
        CHECK.due("set(1, 2, 1000)", t.set(1, 2, 1000), true);
        CHECK.due("span", t.about(5), 1001);
        CHECK.due("set(1, 2, -2)", t.set(1, 2, -2), true);
        CHECK.due("as before", t.state().equals(Games.small().state()), true);
    }

    private static void setWithCards() {
        CHECK.refused("set with cards", Games.cards(3, 0), t -> t.set(0, 0, 1));
        Tireless t = Games.small();
        t.cards(5);
        CHECK.refused("set with cards behind a table", t, x -> x.set(0, 0, 1));
    }

    private static void setBehind(Predicate<Tireless> round) {
        Tireless t = Games.small();
        CHECK.due("a round", round.test(t), true);
        CHECK.refused("set(0, 0, 1)", t, x -> x.set(0, 0, 1));
        CHECK.refused("set(1, 2, -2), the number that is there", t, x -> x.set(1, 2, -2));
    }

    private static void setBehindNoRound() {
        Tireless t = Games.small();
        CHECK.due("column(3)", t.column(3), false);
        CHECK.due("row(2)", t.row(2), false);
        CHECK.due("set(0, 0, 9)", t.set(0, 0, 9), true);
        CHECK.due("span", t.about(5), 11);
    }

    private static void setBehindTable() {
        Tireless t = Games.small();
        t.round();
        t.table(2, 3);
        CHECK.due("set(0, 0, 9)", t.set(0, 0, 9), true);
        CHECK.due("span", t.about(5), 9);
    }
}
