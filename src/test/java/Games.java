import java.util.ArrayList;
import java.util.List;

/** What the tests of the promises begin with. */
final class Games {
    static final int LEAST = Integer.MIN_VALUE;
    static final int MOST = Integer.MAX_VALUE;

    private Games() {
    }

    static Tireless table(int rows, int columns, int... numbers) {
        Tireless t = new Tireless();
        t.table(rows, columns);
        for (int i = 0; i < numbers.length; i++) {
            t.set(i / columns, i % columns, numbers[i]);
        }
        return t;
    }

    /** 3 -1 2 / 0 4 -2 */
    static Tireless small() {
        return table(2, 3, 3, -1, 2, 0, 4, -2);
    }

    static Tireless cards(int n, int rounds) {
        Tireless t = new Tireless();
        t.cards(n);
        for (int i = 0; i < rounds; i++) {
            t.round();
        }
        return t;
    }

    /** An object of each kind: without a game, with either game ahead of its rounds and behind some. */
    static List<Tireless> kinds() {
        List<Tireless> all = new ArrayList<>();
        all.add(new Tireless());
        all.add(small());
        Tireless played = small();
        played.round();
        played.column(1);
        played.view(0, 1, 2);
        all.add(played);
        all.add(cards(4, 0));
        Tireless dealt = cards(3, 4);
        dealt.view(3, 0, 1);
        all.add(dealt);
        return all;
    }
}
