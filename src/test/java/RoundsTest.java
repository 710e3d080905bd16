/** Promises 5 to 7: column(), row(), round(). What is refused as GREAT stands in GreatTest. */
public final class RoundsTest {
    private static final int R = 0;
    private static final int SUM = 1;
    private static final int MIX = 2;
    private static final int MEAN = 3;
    private static final int A = 0;
    private static final int B = 1;

    private static final Check CHECK = new Check("RoundsTest");

    public static void main(String[] args) {
        CHECK.test("5: rounds of A, with B as it was", RoundsTest::columns);
        CHECK.test("5: the first column and the last", RoundsTest::outermostColumns);
        CHECK.test("5: no such column", RoundsTest::noSuchColumn);
        CHECK.test("5: one row alone", RoundsTest::oneRow);
        CHECK.test("5: no TABLE: no game", () -> CHECK.refused("column(0)", new Tireless(), t -> t.column(0)));
        CHECK.test("5: no TABLE: CARDS", RoundsTest::columnWithCards);
        CHECK.test("6: rounds of B, with A as it was", RoundsTest::rows);
        CHECK.test("6: the first row and the last", RoundsTest::outermostRows);
        CHECK.test("6: no such row", RoundsTest::noSuchRow);
        CHECK.test("6: one column alone", RoundsTest::oneColumn);
        CHECK.test("6: no TABLE: no game", () -> CHECK.refused("row(0)", new Tireless(), t -> t.row(0)));
        CHECK.test("6: no TABLE: CARDS", RoundsTest::rowWithCards);
        CHECK.test("7: each of column(), row() and round() counts one", RoundsTest::allCount);
        CHECK.test("7: what was refused does not count", RoundsTest::refusedDoesNotCount);
        CHECK.test("7: rounds since the game began", RoundsTest::sinceTheGameBegan);
        CHECK.test("7: NONE, doing nothing: no game", RoundsTest::noGame);
        CHECK.test("7: the least TABLE", RoundsTest::leastTable);
        CHECK.test("7: the largest TABLE", RoundsTest::largestTable);
        CHECK.test("7: a round of CARDS", RoundsTest::roundsOfCards);
        CHECK.test("an object is used for 512 calls", RoundsTest::lastCall);
        CHECK.end();
    }

    private static void columns() {
        Tireless t = Games.small();
        CHECK.due("column(0)", t.column(0), true);
        CHECK.ways("R", t, R, A, 3, 2, -3, 2);
        CHECK.ways("SUM", t, SUM, A, 1, 2, 1, 2);
        CHECK.due("column(1)", t.column(1), true);
        CHECK.ways("R", t, R, A, 3, 2, 7, 2);
        CHECK.ways("SUM", t, SUM, A, 3, 2, 1, 2);
        CHECK.ways("MIX", t, MIX, A, 3, 10, 7, 10);
        CHECK.due("column(2)", t.column(2), true);
        CHECK.ways("R", t, R, A, 43, 10, 23, 10);
        CHECK.ways("SUM", t, SUM, A, 9, 5, 6, 5);
        CHECK.ways("MEAN", t, MEAN, A, 3, 5, 2, 5);
        CHECK.due("rounds", t.about(4), 3);
        CHECK.ways("R of B", t, R, B, 0, 1, 0, 1, 0, 1);
        CHECK.ways("SUM of B", t, SUM, B, 0, 1, 0, 1, 0, 1);
    }

    private static void outermostColumns() {
        for (int columns = 1; columns <= 5; columns++) {
            Tireless t = Games.table(2, columns);
            t.set(0, 0, 8);
            CHECK.due("column(0)", t.column(0), true);
            CHECK.ways("R", t, R, A, 4, 1, -4, 1);
            t.table(2, columns);
            t.set(0, columns - 1, -6);
            CHECK.due("the last of " + columns, t.column(columns - 1), true);
            CHECK.ways("R", t, R, A, -3, 1, 3, 1);
            CHECK.refused("beyond the last of " + columns, t, x -> x.column(x.about(2)));
        }
    }

    private static void noSuchColumn() {
        Tireless t = Games.small();
        t.view(MIX, B, 0);
        for (int c : new int[] {-1, 3, 4, 5, Games.LEAST, Games.MOST}) {
            CHECK.refused("column(" + c + ")", t, x -> x.column(c));
        }
        CHECK.refused("column(1) of 5 rows and 1 column", Games.table(5, 1), x -> x.column(1));
        CHECK.due("column(4) of 1 row and 5 columns", Games.table(1, 5).column(4), true);
        t = Games.table(2, 5);
        t.table(2, 2);
        CHECK.refused("column(4) behind a larger table", t, x -> x.column(4));
    }

    private static void oneRow() {
        Tireless t = Games.table(1, 2, 1000, -1000);
        for (int i = 1; i <= 9; i++) {
            CHECK.due("column", t.column(i % 2), true);
            CHECK.ways("R", t, R, A, 0, 1);
            CHECK.ways("SUM", t, SUM, A, i, 1);
            CHECK.ways("MIX", t, MIX, A, 1, 1);
            CHECK.ways("MEAN", t, MEAN, A, 1, 1);
        }
    }

    private static void columnWithCards() {
        Tireless t = Games.small();
        t.cards(3);
        t.round();
        CHECK.refused("column(0) of cards", t, x -> x.column(0));
        CHECK.refused("column(1) of cards", t, x -> x.column(1));
    }

    private static void rows() {
        Tireless t = Games.small();
        CHECK.due("row(0)", t.row(0), true);
        CHECK.ways("R", t, R, B, -5, 3, 7, 3, -2, 3);
        CHECK.ways("SUM", t, SUM, B, 1, 3, 1, 3, 1, 3);
        CHECK.due("row(1)", t.row(1), true);
        CHECK.ways("R", t, R, B, 7, 3, 7, 3, 16, 3);
        CHECK.ways("SUM", t, SUM, B, 1, 3, 4, 3, 1, 3);
        CHECK.ways("MIX", t, MIX, B, 7, 30, 7, 30, 8, 15);
        CHECK.ways("MEAN", t, MEAN, B, 1, 6, 2, 3, 1, 6);
        CHECK.due("rounds", t.about(4), 2);
        CHECK.ways("R of A", t, R, A, 0, 1, 0, 1);
        CHECK.ways("SUM of A", t, SUM, A, 0, 1, 0, 1);
    }

    private static void outermostRows() {
        for (int rows = 1; rows <= 5; rows++) {
            Tireless t = Games.table(rows, 2);
            t.set(0, 0, 8);
            CHECK.due("row(0)", t.row(0), true);
            CHECK.ways("R", t, R, B, -4, 1, 4, 1);
            t.table(rows, 2);
            t.set(rows - 1, 0, -6);
            CHECK.due("the last of " + rows, t.row(rows - 1), true);
            CHECK.ways("R", t, R, B, 3, 1, -3, 1);
            CHECK.refused("beyond the last of " + rows, t, x -> x.row(x.about(1)));
        }
    }

    private static void noSuchRow() {
        Tireless t = Games.small();
        t.view(MIX, B, 0);
        for (int r : new int[] {-1, 2, 3, 4, 5, Games.LEAST, Games.MOST}) {
            CHECK.refused("row(" + r + ")", t, x -> x.row(r));
        }
        CHECK.refused("row(1) of 1 row and 5 columns", Games.table(1, 5), x -> x.row(1));
        CHECK.due("row(4) of 5 rows and 1 column", Games.table(5, 1).row(4), true);
        t = Games.table(5, 2);
        t.table(2, 2);
        CHECK.refused("row(4) behind a larger table", t, x -> x.row(4));
    }

    private static void oneColumn() {
        Tireless t = Games.table(2, 1, 1000, -1000);
        for (int i = 1; i <= 9; i++) {
            CHECK.due("row", t.row(i % 2), true);
            CHECK.ways("R", t, R, B, 0, 1);
            CHECK.ways("SUM", t, SUM, B, i, 1);
            CHECK.ways("MIX", t, MIX, B, 1, 1);
            CHECK.ways("MEAN", t, MEAN, B, 1, 1);
        }
    }

    private static void rowWithCards() {
        Tireless t = Games.small();
        t.cards(3);
        t.round();
        CHECK.refused("row(0) of cards", t, x -> x.row(0));
        CHECK.refused("row(1) of cards", t, x -> x.row(1));
    }

    private static void allCount() {
        Tireless t = Games.small();
        CHECK.due("round()", t.round(), 1);
        CHECK.due("column(1)", t.column(1), true);
        CHECK.due("rounds", t.about(4), 2);
        CHECK.due("row(0)", t.row(0), true);
        CHECK.due("rounds", t.about(4), 3);
        CHECK.due("round()", t.round(), 4);
        CHECK.due("rounds", t.about(4), 4);
    }

    private static void refusedDoesNotCount() {
        Tireless t = Games.small();
        t.column(0);
        t.column(3);
        t.row(2);
        t.set(0, 0, 1);
        t.table(0, 0);
        t.cards(2);
        CHECK.due("round()", t.round(), 2);
    }

    private static void sinceTheGameBegan() {
        Tireless t = Games.small();
        CHECK.due("round()", t.round(), 1);
        CHECK.due("round()", t.round(), 2);
        t.table(2, 2);
        CHECK.due("round() of a new table", t.round(), 1);
        t.cards(3);
        CHECK.due("round() of cards", t.round(), 1);
        CHECK.due("round() of cards", t.round(), 2);
        t.cards(3);
        CHECK.due("round() of new cards", t.round(), 1);
        t.table(2, 2);
        CHECK.due("round() of a table behind cards", t.round(), 1);
    }

    private static void noGame() {
        Tireless t = new Tireless();
        CHECK.refused("round()", t, x -> x.round() != RegretTable.NONE);
        CHECK.due("NONE", t.round(), -1);
        t.table(6, 1);
        t.cards(6);
        CHECK.due("round() behind games that could not be", t.round(), -1);
    }

    private static void leastTable() {
        Tireless t = Games.table(1, 1, -1000);
        for (int i = 1; i <= 400; i++) {
            CHECK.due("round()", t.round(), i);
        }
        for (int player = A; player <= B; player++) {
            CHECK.ways("R", t, R, player, 0, 1);
            CHECK.ways("SUM", t, SUM, player, 400, 1);
        }
    }

    /** Row r holds r, -r, r, -r, r: B's MIX makes r / 5 of it at first. */
    private static void largestTable() {
        Tireless t = Games.table(5, 5);
        for (int i = 0; i < 25; i++) {
            t.set(i / 5, i % 5, i % 2 == i / 5 % 2 ? i / 5 : -(i / 5));
        }
        CHECK.due("round()", t.round(), 1);
        CHECK.ways("R of A", t, R, A, -2, 5, -1, 5, 0, 1, 1, 5, 2, 5);
        CHECK.ways("R of B", t, R, B, -8, 5, 12, 5, -8, 5, 12, 5, -8, 5);
    }

    private static void roundsOfCards() {
        for (int n = 3; n <= 5; n++) {
            Tireless t = Games.cards(n, 0);
            for (int i = 1; i <= 9; i++) {
                CHECK.due("round()", t.round(), i);
                CHECK.due("rounds", t.about(4), i);
            }
        }
    }

    /** 3 calls ahead of 506 rounds and 3 behind make 512. */
    private static void lastCall() {
        RegretTable t = new RegretTable();
        t.table(2, 1);
        t.set(0, 0, 1000);
        t.set(1, 0, -1000);
        int calls = 3;
        while (calls < 509) {
            CHECK.due("column(0)", t.column(0), true);
            calls++;
        }
        CHECK.due("rounds", t.about(4), 506);
        t.view(R, A, 1);
        CHECK.due("the 512th call", t.times(1000000000), (-1000L - 505 * 2000) * 1000000000);
    }
}
