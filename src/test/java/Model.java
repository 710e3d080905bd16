import java.math.BigInteger;

/**
 * The document again, word by word and without a thought for speed: the game of cards is walked
 * through pair by pair, and a best answer is found by trying every way at every place.
 */
final class Model {
    static final String[] PARTS = {"numerator of an R above 0", "numerator of an R below 0", "denominator of an R",
        "numerator of a SUM", "denominator of a SUM"};

    private int game = 0;
    private int rows;
    private int columns;
    private int deck;
    private int rounds;
    private int columnRounds;
    private int rowRounds;
    private int[][] numbers;
    private Ratio[][] regret;
    private Ratio[][] sum;
    private Ratio view = Ratio.ZERO;
    /** What the last round made of R and SUM or, if it was refused, would have made. */
    Ratio[][] lastRegret;
    Ratio[][] lastSum;

    boolean table(int rows, int columns) {
        if (rows < 1 || rows > 5 || columns < 1 || columns > 5) {
            return false;
        }
        begin(1);
        this.rows = rows;
        this.columns = columns;
        numbers = new int[rows][columns];
        regret = new Ratio[][] {zeros(rows), zeros(columns)};
        sum = new Ratio[][] {zeros(rows), zeros(columns)};
        return true;
    }

    boolean set(int row, int column, int v) {
        if (game != 1 || rounds > 0 || row < 0 || row >= rows || column < 0 || column >= columns
                || v < -1000 || v > 1000) {
            return false;
        }
        numbers[row][column] = v;
        return true;
    }

    boolean cards(int n) {
        if (n < 3 || n > 5) {
            return false;
        }
        begin(2);
        deck = n;
        regret = new Ratio[4 * n][];
        sum = new Ratio[4 * n][];
        for (int p = 0; p < 4 * n; p++) {
            regret[p] = zeros(2);
            sum[p] = zeros(2);
        }
        return true;
    }

    private void begin(int kind) {
        game = kind;
        rows = 0;
        columns = 0;
        deck = 0;
        rounds = 0;
        columnRounds = 0;
        rowRounds = 0;
    }

    private static Ratio[] zeros(int n) {
        Ratio[] all = new Ratio[n];
        java.util.Arrays.fill(all, Ratio.ZERO);
        return all;
    }

    private static Ratio[] parts(Ratio[] of) {
        Ratio total = Ratio.ZERO;
        for (Ratio r : of) {
            total = total.plus(r.max(Ratio.ZERO));
        }
        Ratio[] parts = new Ratio[of.length];
        for (int i = 0; i < of.length; i++) {
            parts[i] = total.sign() == 0 ? Ratio.of(1, of.length) : of[i].max(Ratio.ZERO).over(total);
        }
        return parts;
    }

    private static Ratio[][] allParts(Ratio[][] of) {
        Ratio[][] all = new Ratio[of.length][];
        for (int p = 0; p < of.length; p++) {
            all[p] = parts(of[p]);
        }
        return all;
    }

    boolean column(int c) {
        if (game != 1 || c < 0 || c >= columns) {
            return false;
        }
        Ratio[] gains = new Ratio[rows];
        for (int r = 0; r < rows; r++) {
            gains[r] = Ratio.of(numbers[r][c], 1);
        }
        if (!take(0, gains)) {
            return false;
        }
        columnRounds++;
        return true;
    }

    boolean row(int r) {
        if (game != 1 || r < 0 || r >= rows) {
            return false;
        }
        Ratio[] gains = new Ratio[columns];
        for (int c = 0; c < columns; c++) {
            gains[c] = Ratio.of(-numbers[r][c], 1);
        }
        if (!take(1, gains)) {
            return false;
        }
        rowRounds++;
        return true;
    }

    private boolean take(int player, Ratio[] gains) {
        Ratio[][] r = regret.clone();
        Ratio[][] s = sum.clone();
        Ratio[] mix = parts(regret[player]);
        r[player] = regretAfter(regret[player], mix, gains);
        s[player] = plus(sum[player], mix, Ratio.ONE);
        return adopt(r, s);
    }

    private static Ratio[] regretAfter(Ratio[] old, Ratio[] mix, Ratio[] gains) {
        Ratio average = Ratio.ZERO;
        for (int i = 0; i < mix.length; i++) {
            average = average.plus(mix[i].by(gains[i]));
        }
        Ratio[] next = new Ratio[old.length];
        for (int i = 0; i < old.length; i++) {
            next[i] = old[i].plus(gains[i]).minus(average);
        }
        return next;
    }

    private static Ratio[] plus(Ratio[] old, Ratio[] mix, Ratio weight) {
        Ratio[] next = new Ratio[old.length];
        for (int i = 0; i < old.length; i++) {
            next[i] = old[i].plus(mix[i].by(weight));
        }
        return next;
    }

    private boolean adopt(Ratio[][] r, Ratio[][] s) {
        lastRegret = r;
        lastSum = s;
        for (int p = 0; p < r.length; p++) {
            for (int w = 0; w < r[p].length; w++) {
                if (r[p][w].isGreat() || s[p][w].isGreat()) {
                    return false;
                }
            }
        }
        regret = r;
        sum = s;
        rounds++;
        return true;
    }

    /** Of a place behind the last round: the greatest bits of each of the five PARTS. */
    int[] bitsOfLastRound(int place) {
        int[] bits = new int[PARTS.length];
        for (Ratio r : lastRegret[place]) {
            int top = r.sign() < 0 ? 1 : 0;
            bits[top] = Math.max(bits[top], r.top.abs().bitLength());
            bits[2] = Math.max(bits[2], r.bottom.bitLength());
        }
        for (Ratio s : lastSum[place]) {
            bits[3] = Math.max(bits[3], s.top.bitLength());
            bits[4] = Math.max(bits[4], s.bottom.bitLength());
        }
        return bits;
    }

    int round() {
        if (game == 0) {
            return -1;
        }
        return (game == 1 ? roundOfTable() : roundOfCards()) ? rounds : -1;
    }

    private Ratio rowGain(int r, Ratio[] byColumn) {
        Ratio gain = Ratio.ZERO;
        for (int c = 0; c < columns; c++) {
            gain = gain.plus(byColumn[c].by(numbers[r][c]));
        }
        return gain;
    }

    private Ratio columnGain(int c, Ratio[] byRow) {
        Ratio gain = Ratio.ZERO;
        for (int r = 0; r < rows; r++) {
            gain = gain.plus(byRow[r].by(-numbers[r][c]));
        }
        return gain;
    }

    private boolean roundOfTable() {
        Ratio[] a = parts(regret[0]);
        Ratio[] b = parts(regret[1]);
        Ratio[] gainsOfA = new Ratio[rows];
        for (int r = 0; r < rows; r++) {
            gainsOfA[r] = rowGain(r, b);
        }
        Ratio[] gainsOfB = new Ratio[columns];
        for (int c = 0; c < columns; c++) {
            gainsOfB[c] = columnGain(c, a);
        }
        Ratio[][] r = {regretAfter(regret[0], a, gainsOfA), regretAfter(regret[1], b, gainsOfB)};
        Ratio[][] s = {plus(sum[0], a, Ratio.ONE), plus(sum[1], b, Ratio.ONE)};
        return adopt(r, s);
    }

    /** What A gets on the average with cards a and b, by the parts, once the moves so far are made. */
    private Ratio worthToA(int a, int b, String moves, Ratio[][] mix) {
        int show = a > b ? 1 : -1;
        switch (moves) {
            case "pp":
                return Ratio.of(show, 1);
            case "pbp":
                return Ratio.of(-1, 1);
            case "pbb":
            case "bb":
                return Ratio.of(2 * show, 1);
            case "bp":
                return Ratio.ONE;
            default:
                Ratio[] here = mix[place(a, b, moves)];
                return here[0].by(worthToA(a, b, moves + "p", mix))
                        .plus(here[1].by(worthToA(a, b, moves + "b", mix)));
        }
    }

    private static int place(int a, int b, String moves) {
        switch (moves) {
            case "":
                return 4 * a;
            case "p":
                return 4 * b + 1;
            case "b":
                return 4 * b + 2;
            default:
                return 4 * a + 3;
        }
    }

    private boolean roundOfCards() {
        Ratio[][] mix = allParts(regret);
        Ratio chance = Ratio.of(1, (long) deck * (deck - 1));
        String[] moves = {"", "p", "b", "pb"};
        Ratio[][] r = new Ratio[4 * deck][];
        Ratio[][] s = new Ratio[4 * deck][];
        for (int p = 0; p < 4 * deck; p++) {
            int card = p / 4;
            int kind = p % 4;
            boolean isA = kind == 0 || kind == 3;
            Ratio[] worth = {Ratio.ZERO, Ratio.ZERO};
            for (int j = 0; j < deck; j++) {
                if (j == card) {
                    continue;
                }
                Ratio come = kind == 0 ? Ratio.ONE : kind == 1 ? mix[4 * j][0]
                        : kind == 2 ? mix[4 * j][1] : mix[4 * j + 1][1];
                for (int w = 0; w < 2; w++) {
                    String next = moves[kind] + (w == 0 ? "p" : "b");
                    Ratio gets = isA ? worthToA(card, j, next, mix) : worthToA(j, card, next, mix).by(-1);
                    worth[w] = worth[w].plus(chance.by(come).by(gets));
                }
            }
            r[p] = regretAfter(regret[p], mix[p], worth);
            s[p] = plus(sum[p], mix[p], kind == 3 ? mix[4 * card][0] : Ratio.ONE);
        }
        return adopt(r, s);
    }

    private Ratio best(int player) {
        if (game == 2) {
            return bestOfCards(player);
        }
        Ratio best = null;
        Ratio[] other = parts(sum[1 - player]);
        for (int w = 0; w < (player == 0 ? rows : columns); w++) {
            Ratio gain = player == 0 ? rowGain(w, other) : columnGain(w, other);
            best = best == null ? gain : best.max(gain);
        }
        return best;
    }

    private Ratio bestOfCards(int player) {
        Ratio total = Ratio.ZERO;
        int one = player == 0 ? 0 : 1;
        int two = player == 0 ? 3 : 2;
        for (int card = 0; card < deck; card++) {
            Ratio best = null;
            for (int plan = 0; plan < 4; plan++) {
                Ratio[][] mean = allParts(sum);
                mean[4 * card + one] = certain(plan & 1);
                mean[4 * card + two] = certain(plan >> 1);
                Ratio gain = Ratio.ZERO;
                for (int j = 0; j < deck; j++) {
                    if (j != card) {
                        gain = gain.plus(player == 0 ? worthToA(card, j, "", mean)
                                : worthToA(j, card, "", mean).by(-1));
                    }
                }
                best = best == null ? gain : best.max(gain);
            }
            total = total.plus(best);
        }
        return total.by(Ratio.of(1, (long) deck * (deck - 1)));
    }

    private static Ratio[] certain(int way) {
        return new Ratio[] {Ratio.of(1 - way, 1), Ratio.of(way, 1)};
    }

    private Ratio gap() {
        return best(0).plus(best(1));
    }

    boolean view(int what, int place, int way) {
        Ratio seen = find(what, place, way);
        if (seen == null) {
            return false;
        }
        view = seen;
        return true;
    }

    Ratio viewed() {
        return view;
    }

    private Ratio find(int what, int place, int way) {
        if (game == 0 || what < 0 || what > 5 || place < 0 || way < 0) {
            return null;
        }
        if (what == 4) {
            return place > 1 || way > 0 ? null : best(place);
        }
        if (what == 5) {
            return place > 0 || way > 0 ? null : gap();
        }
        if (place >= regret.length || way >= regret[place].length) {
            return null;
        }
        switch (what) {
            case 0:
                return regret[place][way];
            case 1:
                return sum[place][way];
            case 2:
                return parts(regret[place])[way];
            default:
                return parts(sum[place])[way];
        }
    }

    int size(int what) {
        switch (what) {
            case 0:
                return view.sign();
            case 1:
                return view.top.abs().bitLength();
            case 2:
                return view.bottom.bitLength();
            default:
                return -2;
        }
    }

    int bits(int part, int k) {
        if (part < 0 || part > 1 || k < 0 || k > 100000) {
            return 0;
        }
        return (part == 0 ? view.top.abs() : view.bottom).shiftRight(32 * k).intValue();
    }

    long times(int by) {
        if (by < 1 || by > 1000000000) {
            return Long.MIN_VALUE;
        }
        BigInteger cut = view.top.multiply(BigInteger.valueOf(by)).divide(view.bottom);
        return cut.abs().compareTo(BigInteger.valueOf(Long.MAX_VALUE)) > 0 ? Long.MIN_VALUE : cut.longValueExact();
    }

    int bound(int what) {
        if (what == 0 || what == 1) {
            if (game != 1 || rounds != (what == 0 ? columnRounds : rowRounds)) {
                return -1;
            }
            Ratio most = Ratio.ZERO;
            for (Ratio r : regret[what]) {
                most = most.max(r);
            }
            long span = about(5);
            Ratio limit = Ratio.of(span, 1).by(span).by(what == 0 ? rows : columns).by(rounds);
            return most.by(most).compareTo(limit) <= 0 ? 1 : 0;
        }
        if (what != 2 || game != 2 || deck != 3) {
            return -1;
        }
        Ratio gap = gap();
        return gap.by(gap).by(rounds).compareTo(Ratio.of(4608, 1)) <= 0 ? 1 : 0;
    }

    int about(int what) {
        switch (what) {
            case 0:
                return game;
            case 1:
                return rows;
            case 2:
                return columns;
            case 3:
                return deck;
            case 4:
                return rounds;
            case 5:
                return game == 1 ? span() : 0;
            case 6:
                return game == 0 ? 0 : longest(regret, sum);
            default:
                return -1;
        }
    }

    private int span() {
        int least = numbers[0][0];
        int most = numbers[0][0];
        for (int[] line : numbers) {
            for (int v : line) {
                least = Math.min(least, v);
                most = Math.max(most, v);
            }
        }
        return most - least;
    }

    private static int longest(Ratio[][] regrets, Ratio[][] sums) {
        int most = 0;
        for (Ratio[][] all : new Ratio[][][] {regrets, sums}) {
            for (Ratio[] place : all) {
                for (Ratio r : place) {
                    most = Math.max(most, r.longest());
                }
            }
        }
        return most;
    }
}
