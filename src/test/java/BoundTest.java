import java.util.function.Consumer;

/** Promise 12: bound(). Bounds that do not hold stand in PlantedTest: in true play they always do. */
public final class BoundTest {
    private static final int NONE = RegretTable.NONE;

    private static final Check CHECK = new Check("BoundTest");

    public static void main(String[] args) {
        CHECK.test("0, 1: ahead of rounds both hold", BoundTest::aheadOfRounds);
        CHECK.test("0: rounds by column() alone", BoundTest::columnsAlone);
        CHECK.test("0: the greatest R is not above 0", BoundTest::noRegretOfA);
        CHECK.test("0: NONE behind row()", () -> dues(t -> t.row(0), NONE, 1));
        CHECK.test("0, 1: NONE behind round()", () -> dues(Tireless::round, NONE, NONE));
        CHECK.test("0: NONE behind column() and row()", () -> dues(BoundTest::columnAndRow, NONE, NONE));
        CHECK.test("0: NONE behind column() and round()", () -> dues(BoundTest::columnAndRound, NONE, NONE));
        CHECK.test("1: rounds by row() alone", BoundTest::rowsAlone);
        CHECK.test("1: the greatest R is not above 0", BoundTest::noRegretOfB);
        CHECK.test("1: NONE behind column()", () -> dues(t -> t.column(0), 1, NONE));
        CHECK.test("1: NONE behind row() and round()", () -> dues(BoundTest::rowAndRound, NONE, NONE));
        CHECK.test("0, 1: rounds that were refused are no other rounds", BoundTest::refusedRounds);
        CHECK.test("0, 1: a new table() can be asked again", BoundTest::newTable);
        CHECK.test("2: CARDS with n 3", BoundTest::threeCards);
        CHECK.test("2: n 3 and 0 rounds: 1", () -> CHECK.due("bound(2)", Games.cards(3, 0).bound(2), 1));
        CHECK.test("2: NONE with another deck", BoundTest::otherDecks);
        CHECK.test("NONE without a game", () -> none(new Tireless(), 0, 1, 2));
        CHECK.test("0, 1: NONE with CARDS", BoundTest::tableBoundsOfCards);
        CHECK.test("2: NONE with a TABLE", () -> none(Games.small(), 2));
        CHECK.test("NONE for another what", BoundTest::wrongWhat);
        CHECK.test("it changes nothing", BoundTest::changesNothing);
        CHECK.end();
    }

    private static void none(Tireless t, int... whats) {
        for (int what : whats) {
            CHECK.due("bound(" + what + ")", t.bound(what), NONE);
        }
    }

    private static void dues(Consumer<Tireless> play, int ofA, int ofB) {
        Tireless t = Games.small();
        play.accept(t);
        CHECK.due("bound(0)", t.bound(0), ofA);
        CHECK.due("bound(1)", t.bound(1), ofB);
        CHECK.due("bound(2)", t.bound(2), NONE);
    }

    private static void columnAndRow(Tireless t) {
        t.column(0);
        t.row(0);
    }

    private static void columnAndRound(Tireless t) {
        t.column(0);
        t.round();
    }

    private static void rowAndRound(Tireless t) {
        t.row(0);
        t.round();
    }

    private static void aheadOfRounds() {
        dues(t -> t.about(0), 1, 1);
        Tireless t = Games.table(1, 1);
        CHECK.due("bound(0)", t.bound(0), 1);
        CHECK.due("bound(1)", t.bound(1), 1);
    }

    private static void columnsAlone() {
        Tireless t = Games.small();
        for (int i = 0; i < 12; i++) {
            t.column(i % 3);
            CHECK.due("bound(0)", t.bound(0), 1);
            CHECK.due("bound(1)", t.bound(1), NONE);
        }
    }

    private static void noRegretOfA() {
        Tireless t = Games.table(3, 1, -7, -7, -7);
        t.column(0);
        CHECK.due("span", t.about(5), 0);
        CHECK.due("bound(0)", t.bound(0), 1);
        t = Games.table(1, 2, 1000, -1000);
        t.column(0);
        t.column(1);
        CHECK.due("bound(0) of one row", t.bound(0), 1);
    }

    private static void rowsAlone() {
        Tireless t = Games.small();
        for (int i = 0; i < 12; i++) {
            t.row(i % 2);
            CHECK.due("bound(1)", t.bound(1), 1);
            CHECK.due("bound(0)", t.bound(0), NONE);
        }
    }

    private static void noRegretOfB() {
        Tireless t = Games.table(1, 3, 7, 7, 7);
        t.row(0);
        CHECK.due("bound(1)", t.bound(1), 1);
        t = Games.table(2, 1, 1000, -1000);
        t.row(0);
        t.row(1);
        CHECK.due("bound(1) of one column", t.bound(1), 1);
    }

    private static void refusedRounds() {
        Tireless t = Games.small();
        t.column(0);
        t.row(2);
        t.column(3);
        CHECK.due("bound(0)", t.bound(0), 1);
        t = Games.small();
        t.row(0);
        t.row(2);
        t.column(3);
        CHECK.due("bound(1)", t.bound(1), 1);
    }

    private static void newTable() {
        Tireless t = Games.small();
        columnAndRow(t);
        t.round();
        t.table(2, 2);
        CHECK.due("bound(0)", t.bound(0), 1);
        CHECK.due("bound(1)", t.bound(1), 1);
        t.set(0, 0, 3);
        t.column(0);
        CHECK.due("bound(0) behind column()", t.bound(0), 1);
        t.cards(3);
        t.table(2, 2);
        t.row(0);
        CHECK.due("bound(1) behind row()", t.bound(1), 1);
    }

    private static void threeCards() {
        Tireless t = Games.cards(3, 0);
        for (int i = 1; i <= 19; i++) {
            CHECK.due("round()", t.round(), i);
            CHECK.due("bound(2)", t.bound(2), 1);
        }
        CHECK.due("round(), refused", t.round(), NONE);
        CHECK.due("bound(2)", t.bound(2), 1);
    }

    private static void otherDecks() {
        for (int n = 4; n <= 5; n++) {
            none(Games.cards(n, 0), 2);
            none(Games.cards(n, 2), 2);
        }
        Tireless t = Games.cards(3, 1);
        t.cards(4);
        none(t, 2);
        t.cards(3);
        CHECK.due("bound(2) of three cards again", t.bound(2), 1);
    }

    private static void tableBoundsOfCards() {
        none(Games.cards(3, 0), 0, 1);
        none(Games.cards(3, 2), 0, 1);
        Tireless t = Games.small();
        t.column(0);
        t.cards(3);
        none(t, 0, 1);
    }

    private static void wrongWhat() {
        for (Tireless t : Games.kinds()) {
            none(t, -1, 3, 4, Games.LEAST, Games.MOST);
        }
    }

    private static void changesNothing() {
        for (Tireless t : Games.kinds()) {
            String before = t.state();
            for (int what = -1; what <= 3; what++) {
                t.bound(what);
            }
            int rounds = t.about(4);
            CHECK.due("state", t.state().equals(before), true);
            CHECK.due("rounds", t.round(), t.about(0) == 0 ? NONE : rounds + 1);
        }
    }
}
