/** Objects with a past, for tests that ask what a call does to what is held. */
final class Pasts {
    private Pasts() {
    }

    static ColdGrid of(int n, int... own) {
        ColdGrid x = new ColdGrid();
        x.letters(n);
        for (int i = 0; i < own.length; i++) {
            x.weigh(i, i, own[i]);
        }
        return x;
    }

    /** Letters all of whose weights, and those of their pairs, are w. */
    static ColdGrid alike(int n, int w) {
        ColdGrid x = of(n);
        for (int i = 0; i < n; i++) {
            for (int j = i; j < n; j++) {
                x.weigh(i, j, w);
            }
        }
        return x;
    }

    /** Something of all that can be held: weights, a constant, laws, dead cells, chains that stand. */
    static ColdGrid rich() {
        ColdGrid x = of(3, -10, -20, 7);
        x.weigh(0, 1, 30);
        x.weigh(1, 2, -4);
        x.turn(4);
        x.law(7, 1);
        x.law(3, 2);
        x.kill(4, true);
        x.kill(19, true);
        x.chain(0, 1 << 0 | 1 << 1);
        x.chain(1, 1 << 2);
        x.chain(2, 1 << 7 | 1 << 8);
        return x;
    }

    /** Eight letters, and as many laws as there may be. */
    static ColdGrid fullOfLaws() {
        ColdGrid x = of(8, 1, -2, 3, -4, 5, -6, 7, -8);
        x.weigh(0, 7, -9);
        for (int i = 0; i < 6; i++) {
            x.law(7 << i, i % 4);
        }
        return x;
    }

    /** Two letters, a weight and that of the pair cut beyond 60. */
    static ColdGrid beyondSixty() {
        ColdGrid x = of(2, 60, 5);
        x.weigh(0, 1, -60);
        x.cut(17);
        return x;
    }

    /**
     * Three letters, of which the pair of 0 and 1 has a weight, laid so that just the one thing that bears this
     * number fails (1 .. 6), or none (0).
     */
    static ColdGrid failing(int number) {
        int[] third = {1 << 2, 0, 1 << 2, 1 << 0, 1 << 3 | 1 << 19, 1 << 19, 0x3ffe0};
        ColdGrid x = of(3, 4, -3, 2);
        x.weigh(0, 1, 5);
        x.chain(0, 1 << 0);
        x.chain(1, 1 << 1);
        x.chain(2, third[number]);
        if (number == 2) {
            x.kill(2, true);
        }
        if (number == 5) {
            x.weigh(1, 2, 1);
        }
        return x;
    }
}
