/**
 * The edge of what is great: runs whose last round has, or would have, 256 bits (it is done) or 257
 * (it is not), and two runs in which another round fits behind one that was refused.
 */
public final class GreatTest {
    private static final Check CHECK = new Check("GreatTest");

    public static void main(String[] args) {
        int[] swap = {-3, 3, 3, -3, -2, 0};
        last(256, 3, 2, swap, "r1 r1 r1 r0 r0 r1 r2 r0 r0 r2 r2 r2 r1 r2 r2 r2 r1");
        last(256, 3, 3, new int[] {-1, -3, 0, -3, 2, 1, 6, -3, -5}, "r2 r0 r1 r1 r2 r0 r0 r1 r0");
        last(256, 3, 3, new int[] {0, -2, 2, 2, 0, -2, 0, -2, 1}, "c0 c0 c2 c1 c0 c1 c2 c2 c0 c1 c1 c2");
        last(256, 3, 3, new int[] {-1, 0, 0, 1, 0, -1, 0, 0, 1}, "b b b b b b b b b b b b b b b b b b");
        last(257, 3, 3, new int[] {0, 0, -1, 1, -1, -1, -1, 0, 1}, "r2 r0 r1 r2 r1 r2 r1 r0 r2 r0 r2");
        last(257, 3, 3, new int[] {18, 30, 5, -27, 20, 27, 24, -6, -13}, "b b b b b b b b");
        last(257, 3, 3, new int[] {2, 1, -2, -1, 2, 2, -1, 2, -1}, "b b b b b b b b b b b b b");
        last(257, 2, 3, new int[] {2, -3, 3, 0, 3, -1},
                "c2 c2 c0 c2 c0 c1 c2 c1 c2 c1 c1 c2 c0 c0 c1 c2 c1 c0 c0 c2 c0 c0 c0 c1 c1 c0 c1");
        anotherRoundFits();
        CHECK.end();
    }

    private static void last(int bits, int rows, int columns, int[] numbers, String moves) {
        RegretTable table = new RegretTable();
        Model model = new Model();
        begin(table, model, rows, columns, numbers);
        String[] each = moves.split(" ");
        for (int i = 0; i < each.length; i++) {
            boolean isDue = i < each.length - 1 || bits <= 256;
            CHECK.due("move " + i + " of " + moves, play(table, model, each[i]), isDue);
        }
        CHECK.due("bits of the last round of " + moves, model.longestOfLastRound, bits);
        CHECK.due("bits behind " + moves, table.about(6), model.about(6));
        CHECK.due("rounds behind " + moves, table.about(4), each.length - (bits > 256 ? 1 : 0));
    }

    private static void begin(RegretTable table, Model model, int rows, int columns, int[] numbers) {
        table.table(rows, columns);
        model.table(rows, columns);
        for (int i = 0; i < numbers.length; i++) {
            table.set(i / columns, i % columns, numbers[i]);
            model.set(i / columns, i % columns, numbers[i]);
        }
    }

    private static boolean play(RegretTable table, Model model, String move) {
        int where = move.length() > 1 ? move.charAt(1) - '0' : 0;
        boolean got;
        boolean want;
        switch (move.charAt(0)) {
            case 'c':
                got = table.column(where);
                want = model.column(where);
                break;
            case 'r':
                got = table.row(where);
                want = model.row(where);
                break;
            default:
                got = table.round() != RegretTable.NONE;
                want = model.round() != -1;
        }
        CHECK.due("move " + move, got, want);
        return got;
    }

    /** Behind a round() that is refused, column() changes the state and then round() is asked again. */
    private static void anotherRoundFits() {
        int found = 0;
        for (int seed = 0; seed < 300; seed++) {
            java.util.Random random = new java.util.Random(seed);
            int[] numbers = random.ints(6, -3, 4).toArray();
            RegretTable table = new RegretTable();
            Model model = new Model();
            begin(table, model, 2, 3, numbers);
            boolean refused = false;
            for (int i = 0; i < 40; i++) {
                boolean fits = play(table, model, "b");
                found += refused && fits ? 1 : 0;
                refused = !fits;
                if (refused) {
                    play(table, model, "c" + random.nextInt(3));
                    play(table, model, "r" + random.nextInt(2));
                }
            }
        }
        CHECK.due("some round fits behind a refused one", found > 0, true);
    }
}
