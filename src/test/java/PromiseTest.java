/** Each promise of the document by numbers reckoned by hand: what is ordinary, the edges, wrong inputs. */
public final class PromiseTest {
    private static final int[] OUTSIDE = {Integer.MIN_VALUE, -2, -1, Integer.MAX_VALUE};

    private static final Check CHECK = new Check("PromiseTest");

    public static void main(String[] args) {
        newObject();
        table();
        set();
        cards();
        column();
        row();
        round();
        roundOfCards();
        view();
        viewStaysAsItIs();
        size();
        bits();
        times();
        boundOfA();
        boundOfB();
        boundOfCards();
        about();
        CHECK.end();
    }

    /** 3 -1 2 / 0 4 -2 */
    private static RegretTable small() {
        RegretTable t = new RegretTable();
        t.table(2, 3);
        int[] numbers = {3, -1, 2, 0, 4, -2};
        for (int i = 0; i < 6; i++) {
            t.set(i / 3, i % 3, numbers[i]);
        }
        return t;
    }

    private static void due(String call, long got, long want) {
        CHECK.due(call, got, want);
    }

    private static void due(String call, boolean got, boolean want) {
        CHECK.due(call, got, want);
    }

    private static void fraction(String name, RegretTable t, int[] of, int top, int bottom) {
        due(name + ": view", t.view(of[0], of[1], of[2]), true);
        seen(name, t, top, bottom);
    }

    private static void seen(String name, RegretTable t, int top, int bottom) {
        int size = Math.abs(top);
        due(name + ": sign", t.size(0), Integer.signum(top));
        due(name + ": bits of the numerator", t.size(1), 32 - Integer.numberOfLeadingZeros(size));
        due(name + ": bits of the denominator", t.size(2), 32 - Integer.numberOfLeadingZeros(bottom));
        due(name + ": numerator", t.bits(0, 0), size);
        due(name + ": denominator", t.bits(1, 0), bottom);
    }

    private static void ways(String name, RegretTable t, int what, int place, int... parts) {
        for (int way = 0; way < parts.length / 2; way++) {
            fraction(name + " way " + way, t, new int[] {what, place, way}, parts[2 * way], parts[2 * way + 1]);
        }
    }

    /** All that can be asked but THE VIEW, which this changes. */
    private static String state(RegretTable t) {
        StringBuilder text = new StringBuilder();
        for (int what = 0; what < 7; what++) {
            text.append(t.about(what)).append(' ');
        }
        for (int what = 0; what < 3; what++) {
            text.append(t.bound(what)).append(' ');
        }
        for (int what = 0; what < 6; what++) {
            for (int place = 0; place < 20; place++) {
                for (int way = 0; way < 5; way++) {
                    if (t.view(what, place, way)) {
                        readView(t, text);
                    }
                }
            }
        }
        return text.toString();
    }

    private static void readView(RegretTable t, StringBuilder text) {
        text.append(t.size(0)).append(':');
        for (int k = 0; k < 50; k++) {
            text.append(t.bits(0, k)).append('/').append(t.bits(1, k)).append(' ');
        }
    }

    private static void newObject() {
        RegretTable t = new RegretTable();
        for (int what = 0; what < 7; what++) {
            due("new: about(" + what + ")", t.about(what), 0);
        }
        seen("new: the view", t, 0, 1);
        due("new: round()", t.round(), RegretTable.NONE);
        due("new: column(0)", t.column(0), false);
        due("new: row(0)", t.row(0), false);
        due("new: set(0, 0, 1)", t.set(0, 0, 1), false);
        for (int what = 0; what < 6; what++) {
            due("new: view(" + what + ", 0, 0)", t.view(what, 0, 0), false);
        }
        for (int what = 0; what < 3; what++) {
            due("new: bound(" + what + ")", t.bound(what), RegretTable.NONE);
        }
    }

    private static void table() {
        RegretTable t = new RegretTable();
        for (int rows = 1; rows <= 5; rows++) {
            for (int columns = 1; columns <= 5; columns++) {
                due("table(" + rows + ", " + columns + ")", t.table(rows, columns), true);
                due("rows", t.about(1), rows);
                due("columns", t.about(2), columns);
            }
        }
        t = small();
        t.round();
        String before = state(t);
        t.view(0, 1, 2);
        for (int wrong : new int[] {Integer.MIN_VALUE, -1, 0, 6, Integer.MAX_VALUE}) {
            due("table(" + wrong + ", 1)", t.table(wrong, 1), false);
            due("table(1, " + wrong + ")", t.table(1, wrong), false);
        }
        seen("the view behind a wrong table()", t, 1, 1);
        due("a wrong table() does nothing", state(t).equals(before), true);
        due("table(2, 3) anew", t.table(2, 3), true);
        due("anew: rounds", t.about(4), 0);
        due("anew: span", t.about(5), 0);
        ways("anew: R of B", t, 0, 1, 0, 1, 0, 1, 0, 1);
        ways("anew: SUM of A", t, 1, 0, 0, 1, 0, 1);
        t.cards(3);
        due("table behind cards", t.table(1, 1), true);
        due("table behind cards: game", t.about(0), 1);
        due("table behind cards: n", t.about(3), 0);
    }

    private static void set() {
        RegretTable t = new RegretTable();
        t.table(2, 3);
        due("set(1, 2, 1000)", t.set(1, 2, 1000), true);
        due("span", t.about(5), 1000);
        due("set(0, 0, -1000)", t.set(0, 0, -1000), true);
        due("span", t.about(5), 2000);
        due("set(1, 2, 7)", t.set(1, 2, 7), true);
        due("span", t.about(5), 1007);
        due("set(0, 1, 1001)", t.set(0, 1, 1001), false);
        due("set(0, 1, -1001)", t.set(0, 1, -1001), false);
        due("set(2, 0, 999)", t.set(2, 0, 999), false);
        due("set(0, 3, 999)", t.set(0, 3, 999), false);
        for (int wrong : OUTSIDE) {
            due("set(" + wrong + ", 0, 1)", t.set(wrong, 0, 1), false);
            due("set(0, " + wrong + ", 1)", t.set(0, wrong, 1), false);
        }
        due("set(0, 1, least)", t.set(0, 1, Integer.MIN_VALUE), false);
        due("set(0, 1, greatest)", t.set(0, 1, Integer.MAX_VALUE), false);
        due("span", t.about(5), 1007);
        t.column(0);
        due("set behind column()", t.set(0, 0, 1), false);
        t.table(2, 3);
        t.row(0);
        due("set behind row()", t.set(0, 0, 1), false);
        t.table(2, 3);
        t.round();
        due("set behind round()", t.set(0, 0, 1), false);
        due("span stays", t.about(5), 0);
        t.cards(3);
        due("set with cards", t.set(0, 0, 1), false);
    }

    private static void cards() {
        RegretTable t = small();
        t.column(1);
        String before = state(t);
        t.view(0, 0, 0);
        for (int wrong : new int[] {Integer.MIN_VALUE, -3, 0, 2, 6, Integer.MAX_VALUE}) {
            due("cards(" + wrong + ")", t.cards(wrong), false);
        }
        seen("the view behind a wrong cards()", t, -5, 2);
        due("a wrong cards() does nothing", state(t).equals(before), true);
        for (int n = 3; n <= 5; n++) {
            due("cards(" + n + ")", t.cards(n), true);
            due("game", t.about(0), 2);
            due("n", t.about(3), n);
            due("rounds", t.about(4), 0);
            due("no rows", t.about(1), 0);
            due("no columns", t.about(2), 0);
            due("first round", t.round(), 1);
            due("last place", t.view(0, 4 * n - 1, 1), true);
            due("beyond the last place", t.view(0, 4 * n, 0), false);
        }
        due("cards(5) anew", t.cards(5), true);
        due("rounds", t.about(4), 0);
        ways("R", t, 0, 19, 0, 1, 0, 1);
        ways("SUM", t, 1, 19, 0, 1, 0, 1);
    }

    private static void column() {
        RegretTable t = small();
        due("column(0)", t.column(0), true);
        ways("R", t, 0, 0, 3, 2, -3, 2);
        ways("SUM", t, 1, 0, 1, 2, 1, 2);
        due("column(1)", t.column(1), true);
        ways("R", t, 0, 0, 3, 2, 7, 2);
        ways("SUM", t, 1, 0, 3, 2, 1, 2);
        ways("MIX", t, 2, 0, 3, 10, 7, 10);
        ways("MEAN", t, 3, 0, 3, 4, 1, 4);
        due("column(2)", t.column(2), true);
        ways("R", t, 0, 0, 43, 10, 23, 10);
        ways("SUM", t, 1, 0, 9, 5, 6, 5);
        ways("R of B stays", t, 0, 1, 0, 1, 0, 1, 0, 1);
        ways("SUM of B stays", t, 1, 1, 0, 1, 0, 1, 0, 1);
        due("column(3)", t.column(3), false);
        for (int wrong : OUTSIDE) {
            due("column(" + wrong + ")", t.column(wrong), false);
        }
        due("rounds", t.about(4), 3);
        t.cards(4);
        due("column with cards", t.column(0), false);
        due("rounds of cards", t.about(4), 0);
        untilGreat(0);
    }

    private static void row() {
        RegretTable t = small();
        due("row(0)", t.row(0), true);
        ways("R", t, 0, 1, -5, 3, 7, 3, -2, 3);
        ways("SUM", t, 1, 1, 1, 3, 1, 3, 1, 3);
        due("row(1)", t.row(1), true);
        ways("R", t, 0, 1, 7, 3, 7, 3, 16, 3);
        ways("SUM", t, 1, 1, 1, 3, 4, 3, 1, 3);
        ways("MIX", t, 2, 1, 7, 30, 7, 30, 8, 15);
        ways("MEAN", t, 3, 1, 1, 6, 2, 3, 1, 6);
        ways("R of A stays", t, 0, 0, 0, 1, 0, 1);
        ways("SUM of A stays", t, 1, 0, 0, 1, 0, 1);
        due("row(2)", t.row(2), false);
        for (int wrong : OUTSIDE) {
            due("row(" + wrong + ")", t.row(wrong), false);
        }
        due("rounds", t.about(4), 2);
        t.cards(4);
        due("row with cards", t.row(0), false);
        untilGreat(1);
    }

    /** Goes on until a round is refused, and looks that this one left all as it was. */
    private static void untilGreat(int kind) {
        RegretTable t = new RegretTable();
        t.table(5, 5);
        for (int i = 0; i < 25; i++) {
            t.set(i / 5, i % 5, i * i * 37 % 2001 - 1000);
        }
        int done = 0;
        boolean fits = true;
        String before = "";
        while (fits && done < 100) {
            before = state(t);
            int move = done % 5;
            fits = kind == 0 ? t.column(move) : kind == 1 ? t.row(move) : t.round() >= 0;
            done += fits ? 1 : 0;
        }
        due("a round of kind " + kind + " is refused at last", fits, false);
        due("rounds of kind " + kind, t.about(4), done);
        due("bits of kind " + kind, t.about(6) <= 256, true);
        due("a refused round of kind " + kind + " does nothing", state(t).equals(before), true);
    }

    private static void round() {
        RegretTable t = small();
        due("round()", t.round(), 1);
        ways("R of A", t, 0, 0, 1, 3, -1, 3);
        ways("R of B", t, 0, 1, -1, 2, -1, 2, 1, 1);
        ways("SUM of A", t, 1, 0, 1, 2, 1, 2);
        ways("SUM of B", t, 1, 1, 1, 3, 1, 3, 1, 3);
        due("round()", t.round(), 2);
        ways("R of A", t, 0, 0, 1, 3, -13, 3);
        ways("R of B", t, 0, 1, -3, 2, 5, 2, 1, 1);
        ways("SUM of A", t, 1, 0, 3, 2, 1, 2);
        due("column(1)", t.column(1), true);
        due("row(0)", t.row(0), true);
        due("all kinds count", t.round(), 5);
        due("rounds", t.about(4), 5);
        untilGreat(2);
        roundBehindARefusedOne();
    }

    /** A refused round() must not stand in the way of one that fits, of this game or the next. */
    private static void roundBehindARefusedOne() {
        RegretTable t = new RegretTable();
        t.cards(5);
        for (int i = 0; i < 9; i++) {
            due("cards: round()", t.round(), i + 1);
        }
        for (int i = 0; i < 3; i++) {
            due("cards: refused round()", t.round(), RegretTable.NONE);
            due("cards: rounds", t.about(4), 9);
        }
        t.cards(5);
        due("cards anew: round()", t.round(), 1);
    }

    private static void roundOfCards() {
        RegretTable t = new RegretTable();
        t.cards(3);
        due("cards: round()", t.round(), 1);
        ways("R at 0", t, 0, 0, -1, 8, 1, 8);
        ways("R at 8", t, 0, 8, -1, 8, 1, 8);
        ways("R at 3", t, 0, 3, 1, 12, -1, 12);
        ways("R at 7", t, 0, 7, -1, 12, 1, 12);
        ways("R at 10", t, 0, 10, -1, 4, 1, 4);
        ways("R at 1", t, 0, 1, -1, 24, 1, 24);
        ways("SUM at 0", t, 1, 0, 1, 2, 1, 2);
        ways("SUM at 3", t, 1, 3, 1, 4, 1, 4);
        ways("SUM at 5", t, 1, 5, 1, 2, 1, 2);
        due("cards: round()", t.round(), 2);
        ways("SUM at 0, where A bets now", t, 1, 0, 1, 2, 3, 2);
        ways("SUM at 3, not come to", t, 1, 3, 1, 4, 1, 4);
        ways("SUM at 11, not come to", t, 1, 11, 1, 4, 1, 4);
        ways("SUM at 10, come to by A alone", t, 1, 10, 1, 2, 3, 2);
    }

    private static void view() {
        RegretTable t = small();
        t.column(0);
        t.column(1);
        t.column(2);
        fraction("BEST of A", t, new int[] {4, 0, 0}, 4, 3);
        fraction("BEST of B", t, new int[] {4, 1, 0}, -2, 5);
        fraction("GAP", t, new int[] {5, 0, 0}, 14, 15);
        ways("MIX of B, none above 0", t, 2, 1, 1, 3, 1, 3, 1, 3);
        ways("MEAN of B, no SUM", t, 3, 1, 1, 3, 1, 3, 1, 3);
        int[][] none = {{-1, 0, 0}, {6, 0, 0}, {0, 2, 0}, {0, -1, 0}, {0, 0, 2}, {1, 1, 3}, {2, 0, -1}, {3, 1, 3},
            {4, 2, 0}, {4, -1, 0}, {4, 0, 1}, {4, 0, -1}, {5, 1, 0}, {5, 0, 1}, {5, -1, 0},
            {Integer.MIN_VALUE, 0, 0}, {Integer.MAX_VALUE, 0, 0}, {0, Integer.MAX_VALUE, 0},
            {0, Integer.MIN_VALUE, 0}, {0, 0, Integer.MAX_VALUE}, {0, 0, Integer.MIN_VALUE}};
        t.view(0, 0, 0);
        for (int[] of : none) {
            due("view(" + of[0] + ", " + of[1] + ", " + of[2] + ")", t.view(of[0], of[1], of[2]), false);
            seen("the view behind it", t, 43, 10);
        }
        t.cards(3);
        fraction("cards: GAP at first", t, new int[] {5, 0, 0}, 11, 12);
        fraction("cards: BEST of A at first", t, new int[] {4, 0, 0}, 1, 2);
        fraction("cards: BEST of B at first", t, new int[] {4, 1, 0}, 5, 12);
        due("cards: place 12", t.view(0, 12, 0), false);
        due("cards: way 2", t.view(0, 11, 2), false);
        t.round();
        ways("cards: MIX", t, 2, 8, 0, 1, 1, 1);
        ways("cards: MEAN", t, 3, 8, 1, 2, 1, 2);
    }

    private static void viewStaysAsItIs() {
        RegretTable t = small();
        t.column(0);
        t.view(0, 0, 1);
        t.column(1);
        t.round();
        seen("the view behind rounds", t, -3, 2);
        t.bound(0);
        t.about(6);
        t.table(1, 1);
        seen("the view behind table()", t, -3, 2);
        t.cards(3);
        t.round();
        t.bound(2);
        seen("the view behind cards()", t, -3, 2);
    }

    private static void size() {
        RegretTable t = small();
        t.column(0);
        t.view(0, 0, 1);
        due("size(0)", t.size(0), -1);
        due("size(1)", t.size(1), 2);
        due("size(2)", t.size(2), 2);
        for (int wrong : new int[] {Integer.MIN_VALUE, -2, -1, 3, Integer.MAX_VALUE}) {
            due("size(" + wrong + ")", t.size(wrong), -2);
        }
        t.view(0, 1, 0);
        due("size(0) of 0", t.size(0), 0);
        due("size(1) of 0", t.size(1), 0);
        due("size(2) of 0", t.size(2), 1);
    }

    private static void bits() {
        RegretTable t = small();
        t.column(0);
        t.view(0, 0, 1);
        due("bits(0, 0), of a number below 0", t.bits(0, 0), 3);
        due("bits(1, 0)", t.bits(1, 0), 2);
        for (int k : new int[] {Integer.MIN_VALUE, -1, 1, 2, 100, 67108864, 134217728, Integer.MAX_VALUE}) {
            due("bits(0, " + k + ")", t.bits(0, k), 0);
            due("bits(1, " + k + ")", t.bits(1, k), 0);
        }
        for (int part : new int[] {Integer.MIN_VALUE, -1, 2, Integer.MAX_VALUE}) {
            due("bits(" + part + ", 0)", t.bits(part, 0), 0);
        }
        t.cards(5);
        for (int i = 0; i < 9; i++) {
            t.round();
        }
        t.view(3, 16, 1);
        due("bits of a long numerator", t.bits(0, 3), 605671795);
        int words = (t.size(1) + 31) / 32;
        due("the highest bits", t.bits(0, words - 1) >>> ((t.size(1) - 1) % 32), 1);
        due("the bits beyond", t.bits(0, words), 0);
    }

    private static void times() {
        RegretTable t = small();
        due("times(1) of 0", t.times(1), 0);
        t.row(0);
        t.view(0, 1, 0);
        due("times(1) of -5/3", t.times(1), -1);
        due("times(2) of -5/3", t.times(2), -3);
        due("times(3) of -5/3", t.times(3), -5);
        due("times(1000000000) of -5/3", t.times(1000000000), -1666666666L);
        t.view(0, 1, 1);
        due("times(1) of 7/3", t.times(1), 2);
        due("times(1000000000) of 7/3", t.times(1000000000), 2333333333L);
        for (int wrong : new int[] {Integer.MIN_VALUE, -1, 0, 1000000001, Integer.MAX_VALUE}) {
            due("times(" + wrong + ")", t.times(wrong), Long.MIN_VALUE);
        }
        largeTimes();
    }

    private static void largeTimes() {
        RegretTable t = new RegretTable();
        t.table(2, 2);
        t.set(0, 0, 1000);
        t.set(1, 0, -1000);
        t.set(0, 1, 1000);
        t.set(1, 1, -1000);
        for (int i = 0; i < 400; i++) {
            due("column", t.column(i % 2), true);
        }
        t.view(0, 0, 1);
        due("times(1000000000) of -799000", t.times(1000000000), -799000000000000L);
        seen("R", t, -799000, 1);
        t.view(1, 0, 0);
        due("times(2) of 399 1/2", t.times(2), 799);
    }

    private static void boundOfA() {
        RegretTable t = small();
        due("bound(0) at 0 rounds", t.bound(0), 1);
        due("bound(1) at 0 rounds", t.bound(1), 1);
        t.column(0);
        due("bound(0)", t.bound(0), 1);
        due("bound(1) behind column()", t.bound(1), RegretTable.NONE);
        due("bound(2) of a table", t.bound(2), RegretTable.NONE);
        for (int wrong : new int[] {Integer.MIN_VALUE, -1, 3, Integer.MAX_VALUE}) {
            due("bound(" + wrong + ")", t.bound(wrong), RegretTable.NONE);
        }
        t.column(5);
        t.row(7);
        due("bound(0) behind calls that did nothing", t.bound(0), 1);
        t.row(0);
        due("bound(0) behind row()", t.bound(0), RegretTable.NONE);
        due("bound(1) behind both", t.bound(1), RegretTable.NONE);
        t.table(3, 1);
        due("bound(0) anew", t.bound(0), 1);
        t.column(0);
        due("bound(0), no R above 0 and no span", t.bound(0), 1);
        t.round();
        due("bound(0) behind round()", t.bound(0), RegretTable.NONE);
    }

    private static void boundOfB() {
        RegretTable t = small();
        t.row(1);
        due("bound(1)", t.bound(1), 1);
        due("bound(0) behind row()", t.bound(0), RegretTable.NONE);
        t.round();
        due("bound(1) behind round()", t.bound(1), RegretTable.NONE);
    }

    private static void boundOfCards() {
        RegretTable t = new RegretTable();
        t.cards(3);
        due("bound(2) at 0 rounds", t.bound(2), 1);
        t.round();
        due("bound(2)", t.bound(2), 1);
        due("bound(0) of cards", t.bound(0), RegretTable.NONE);
        due("bound(1) of cards", t.bound(1), RegretTable.NONE);
        t.cards(4);
        due("bound(2) of another deck", t.bound(2), RegretTable.NONE);
        t.cards(5);
        due("bound(2) of another deck", t.bound(2), RegretTable.NONE);
    }

    private static void about() {
        RegretTable t = small();
        int[] first = {1, 2, 3, 0, 0, 6, 1, -1, -1};
        for (int what = 0; what < first.length; what++) {
            due("about(" + what + ")", t.about(what), first[what]);
        }
        t.column(0);
        t.column(1);
        t.column(2);
        due("rounds", t.about(4), 3);
        due("bits of 43 / 10", t.about(6), 6);
        for (int wrong : new int[] {Integer.MIN_VALUE, -1, 7, Integer.MAX_VALUE}) {
            due("about(" + wrong + ")", t.about(wrong), RegretTable.NONE);
        }
        t.cards(4);
        int[] cards = {2, 0, 0, 4, 0, 0, 1};
        for (int what = 0; what < cards.length; what++) {
            due("cards: about(" + what + ")", t.about(what), cards[what]);
        }
        t.table(1, 1);
        t.set(0, 0, -5);
        due("span of one number", t.about(5), 0);
    }
}
