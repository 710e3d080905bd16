import java.util.ArrayList;
import java.util.List;
import java.util.function.Consumer;

/**
 * A RegretTable that may be asked as often as a test likes. Nothing is promised behind an object's 512th
 * call: so ahead of the 513th a new object is brought to the same state, by the same calls.
 */
final class Tireless {
    private static final int MOST_CALLS = 512;

    private final List<Consumer<RegretTable>> moves;
    private Consumer<RegretTable> lastView;
    private RegretTable table;
    private int calls;

    Tireless() {
        this(new ArrayList<>());
    }

    private Tireless(List<Consumer<RegretTable>> moves) {
        this.moves = moves;
        begin();
    }

    private void begin() {
        table = new RegretTable();
        for (Consumer<RegretTable> move : moves) {
            move.accept(table);
        }
        calls = moves.size();
        if (calls >= MOST_CALLS) {
            throw new IllegalStateException("a test makes more than " + MOST_CALLS + " moves");
        }
    }

    private RegretTable ready() {
        if (calls == MOST_CALLS) {
            begin();
        }
        calls++;
        return table;
    }

    private <T> T moved(Consumer<RegretTable> move, T answer) {
        moves.add(move);
        return answer;
    }

    boolean table(int rows, int columns) {
        return moved(t -> t.table(rows, columns), ready().table(rows, columns));
    }

    boolean set(int row, int column, int v) {
        return moved(t -> t.set(row, column, v), ready().set(row, column, v));
    }

    boolean cards(int n) {
        return moved(t -> t.cards(n), ready().cards(n));
    }

    boolean column(int c) {
        return moved(t -> t.column(c), ready().column(c));
    }

    boolean row(int r) {
        return moved(t -> t.row(r), ready().row(r));
    }

    int round() {
        return moved(RegretTable::round, ready().round());
    }

    /** Of all views only the last one that was there is made again: it alone can still be seen. */
    boolean view(int what, int place, int way) {
        boolean isThere = ready().view(what, place, way);
        if (isThere) {
            moves.remove(lastView);
            lastView = t -> t.view(what, place, way);
            moves.add(lastView);
        }
        return isThere;
    }

    int size(int what) {
        return ready().size(what);
    }

    int bits(int part, int k) {
        return ready().bits(part, k);
    }

    long times(int by) {
        return ready().times(by);
    }

    int bound(int what) {
        return ready().bound(what);
    }

    int about(int what) {
        return ready().about(what);
    }

    /** All that can be asked, THE VIEW too; asked of a copy, so that THE VIEW stays. */
    String state() {
        Tireless copy = new Tireless(new ArrayList<>(moves));
        StringBuilder text = new StringBuilder();
        copy.tellView(text);
        for (int what = 0; what < 7; what++) {
            text.append(copy.about(what)).append(' ');
        }
        for (int what = 0; what < 3; what++) {
            text.append(copy.bound(what)).append(' ');
        }
        copy.tellNumbers(text);
        for (int what = 0; what < 6; what++) {
            for (int place = 0; place < 20; place++) {
                for (int way = 0; way < 5 && copy.view(what, place, way); way++) {
                    copy.tellView(text);
                }
            }
        }
        return text.toString();
    }

    private void tellView(StringBuilder text) {
        text.append(size(0)).append(':');
        for (int part = 0; part < 2; part++) {
            for (int k = 0; k <= size(1 + part) / 32; k++) {
                text.append(Integer.toHexString(bits(part, k))).append(' ');
            }
            text.append('/');
        }
    }

    /** A TABLE's numbers can't be asked, but they show in what a round against each column makes of R. */
    private void tellNumbers(StringBuilder text) {
        for (int c = 0; c < about(2); c++) {
            Tireless copy = new Tireless(new ArrayList<>(moves));
            text.append(copy.column(c)).append(' ');
            for (int way = 0; copy.view(0, 0, way); way++) {
                copy.tellView(text);
            }
        }
    }
}
