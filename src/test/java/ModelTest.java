import java.util.Random;

/** Long runs of calls, right and wrong ones mixed, on the class and on the model side by side. */
public final class ModelTest {
    private static final int CALLS = 512;

    private final Check check;
    private final Random random;
    private final int run;
    private final Tireless table = new Tireless();
    private final Model model = new Model();

    private ModelTest(Check check, int run) {
        this.check = check;
        this.run = run;
        this.random = new Random(run);
    }

    public static void main(String[] args) {
        Check check = new Check("ModelTest");
        for (int run = 0; run < 60; run++) {
            new ModelTest(check, run).mixed();
        }
        for (int n = 3; n <= 5; n++) {
            new ModelTest(check, 1000 + n).toTheEndOfCards(n);
        }
        for (int run = 2000; run < 2040; run++) {
            new ModelTest(check, run).toTheEndOfTable();
        }
        check.end();
    }

    private String named(String call, int... with) {
        StringBuilder text = new StringBuilder("run " + run + ": " + call + "(");
        for (int i = 0; i < with.length; i++) {
            text.append(i == 0 ? "" : ", ").append(with[i]);
        }
        return text.append(")").toString();
    }

    /** Mostly 0 .. most, at times beside it or far off. */
    private int near(int most) {
        int odd = random.nextInt(40);
        if (odd == 0) {
            return random.nextInt();
        }
        if (odd == 1) {
            return random.nextBoolean() ? Integer.MIN_VALUE : Integer.MAX_VALUE;
        }
        return odd < 5 ? random.nextInt(most + 4) - 2 : random.nextInt(most + 1);
    }

    private int number(int spread) {
        int odd = random.nextInt(50);
        return odd == 0 ? 1001 : odd == 1 ? -1001 : odd == 2 ? 1000 : odd == 3 ? -1000
                : random.nextInt(2 * spread + 1) - spread;
    }

    private void mixed() {
        int spread = new int[] {1, 2, 10, 1000}[random.nextInt(4)];
        int calls = random.nextInt(4);
        while (calls < CALLS) {
            int kind = random.nextInt(100);
            calls++;
            if (kind == 0) {
                cards(random.nextInt(4) == 0 ? near(6) : 3 + random.nextInt(3));
            } else if (kind == 1) {
                table(near(6), near(6));
            } else if (kind < 10) {
                set(near(5), near(5), number(spread));
            } else if (kind < 16) {
                column(near(5));
            } else if (kind < 20) {
                row(near(5));
            } else if (kind < 26) {
                round();
            } else if (kind < 56) {
                view(near(5), kind < 40 ? near(1) : near(19), kind < 50 ? near(1) : near(4));
            } else if (kind < 66) {
                size(near(3));
            } else if (kind < 76) {
                bits(near(2), near(10));
            } else if (kind < 84) {
                times(random.nextBoolean() ? near(1000000000) : 1 + random.nextInt(1000000000));
            } else if (kind < 90) {
                bound(near(3));
            } else {
                about(near(7));
            }
        }
    }

    private void toTheEndOfCards(int n) {
        cards(n);
        for (int i = 0; i < 60; i++) {
            lookAt(4 * n, 2);
            round();
        }
    }

    private void toTheEndOfTable() {
        int rows = 1 + random.nextInt(5);
        int columns = 1 + random.nextInt(5);
        int spread = new int[] {1, 3, 1000}[random.nextInt(3)];
        int kinds = random.nextInt(4);
        table(rows, columns);
        for (int r = 0; r < rows; r++) {
            for (int c = 0; c < columns; c++) {
                set(r, c, random.nextInt(2 * spread + 1) - spread);
            }
        }
        for (int i = 0; i < 25; i++) {
            int kind = kinds == 3 ? random.nextInt(3) : kinds;
            if (kind == 0) {
                column(random.nextInt(columns));
            } else if (kind == 1) {
                row(random.nextInt(rows));
            } else {
                round();
            }
            lookAt(2, Math.max(rows, columns));
        }
    }

    private void lookAt(int places, int ways) {
        for (int what = 0; what < 4; what++) {
            for (int place = 0; place < places; place++) {
                for (int way = 0; way < ways; way++) {
                    lookWhole(what, place, way);
                }
            }
        }
        lookWhole(4, 0, 0);
        lookWhole(4, 1, 0);
        lookWhole(5, 0, 0);
        for (int what = 0; what < 7; what++) {
            about(what);
        }
        for (int what = 0; what < 3; what++) {
            bound(what);
        }
    }

    private void lookWhole(int what, int place, int way) {
        view(what, place, way);
        for (int i = 0; i < 3; i++) {
            size(i);
        }
        int longest = Math.max(model.size(1), model.size(2));
        for (int k = 0; k <= longest / 32 + 1; k++) {
            bits(0, k);
            bits(1, k);
        }
        times(1);
        times(1000000000);
        times(1 + random.nextInt(1000000000));
    }

    private void table(int rows, int columns) {
        check.due(named("table", rows, columns), table.table(rows, columns), model.table(rows, columns));
    }

    private void set(int row, int column, int v) {
        check.due(named("set", row, column, v), table.set(row, column, v), model.set(row, column, v));
    }

    private void cards(int n) {
        check.due(named("cards", n), table.cards(n), model.cards(n));
    }

    private void column(int c) {
        check.due(named("column", c), table.column(c), model.column(c));
    }

    private void row(int r) {
        check.due(named("row", r), table.row(r), model.row(r));
    }

    private void round() {
        check.due(named("round"), table.round(), model.round());
    }

    private void view(int what, int place, int way) {
        check.due(named("view", what, place, way), table.view(what, place, way), model.view(what, place, way));
    }

    private void size(int what) {
        check.due(named("size", what), table.size(what), model.size(what));
    }

    private void bits(int part, int k) {
        check.due(named("bits", part, k), table.bits(part, k), model.bits(part, k));
    }

    private void times(int by) {
        check.due(named("times", by), table.times(by), model.times(by));
    }

    private void bound(int what) {
        check.due(named("bound", what), table.bound(what), model.bound(what));
    }

    private void about(int what) {
        check.due(named("about", what), table.about(what), model.about(what));
    }
}
