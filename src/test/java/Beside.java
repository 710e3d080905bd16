import java.util.Random;

/** A TABLE game and a model of it, with the same moves made at both. */
final class Beside {
    final Tireless table = new Tireless();
    final Model model = new Model();
    /** Whether the model did the last move. */
    boolean lastOfModel;

    /** With numbers at random, from -spread to spread. */
    Beside(int rows, int columns, Random random, int spread) {
        this(rows, columns, random.ints(rows * columns, -spread, spread + 1).toArray());
    }

    private Beside(int rows, int columns, int[] numbers) {
        table.table(rows, columns);
        model.table(rows, columns);
        for (int i = 0; i < numbers.length; i++) {
            table.set(i / columns, i % columns, numbers[i]);
            model.set(i / columns, i % columns, numbers[i]);
        }
    }

    /** Told as rows, x, columns, and all numbers. */
    static Beside told(String game) {
        String[] each = game.split("[x ]");
        int[] numbers = new int[each.length - 2];
        for (int i = 0; i < numbers.length; i++) {
            numbers[i] = Integer.parseInt(each[i + 2]);
        }
        return new Beside(Integer.parseInt(each[0]), Integer.parseInt(each[1]), numbers);
    }

    /** c and a column, r and a row, or b for a round of both; tells if it was done. */
    boolean play(String move) {
        int where = move.length() > 1 ? move.charAt(1) - '0' : 0;
        switch (move.charAt(0)) {
            case 'c':
                lastOfModel = model.column(where);
                return table.column(where);
            case 'r':
                lastOfModel = model.row(where);
                return table.row(where);
            default:
                lastOfModel = model.round() != -1;
                return table.round() != RegretTable.NONE;
        }
    }
}
