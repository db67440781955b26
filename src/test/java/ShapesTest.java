import java.util.Random;

/** Chains of every shape that the grid allows: which hang together, which cells they neighbour, where they break. */
final class ShapesTest {
    private static final int CELLS = 20;
    private static final int[] BESIDE = cellsBeside();
    private static final boolean[] TOGETHER = setsThatHangTogether();

    private ShapesTest() {
    }

    public static void main(String[] args) {
        everyChain();
        everyChainBesideACell();
        aCellAmidstAChain();
        twoChains();
        chainsThatBreak();
        Due.end("ShapesTest");
    }

    // By rows and columns, and not by bits that are moved, as the program does it.
    private static int[] cellsBeside() {
        int[] beside = new int[CELLS];
        for (int a = 0; a < CELLS; a++) {
            for (int b = 0; b < CELLS; b++) {
                if (Math.abs(a / 5 - b / 5) + Math.abs(a % 5 - b % 5) == 1) {
                    beside[a] |= 1 << b;
                }
            }
        }
        return beside;
    }

    // One cell does; so does a set that does without one of its cells which has a neighbour in it.
    private static boolean[] setsThatHangTogether() {
        boolean[] together = new boolean[1 << CELLS];
        for (int set = 1; set < together.length; set++) {
            together[set] = Integer.bitCount(set) == 1;
            for (int cell = 0; cell < CELLS && !together[set]; cell++) {
                int rest = set & ~(1 << cell);
                together[set] = rest != set && together[rest] && (BESIDE[cell] & rest) != 0;
            }
        }
        return together;
    }

    private static int leastOf(int set) {
        return Integer.numberOfTrailingZeros(set);
    }

    // An object answers for 512 calls: letters(), and two for each set.
    private static void everyChain() {
        Due.of("16: 1 each LETTER has a CELL, 4 each CHAIN hangs together by neighbours, 6 14 CELLS at most");
        ColdGrid x = null;
        for (int set = 0; set < 1 << CELLS; set++) {
            if (set % 250 == 0) {
                x = Pasts.of(1);
            }
            int many = Integer.bitCount(set);
            int due = set == 0 ? 1 : !TOGETHER[set] ? 4 : many > 14 ? 6 : 0;
            String what = "chain(0, " + set + ")";
            Due.is(what, x.chain(0, set), many);
            Due.is(what + ", stands()", x.stands(), due);
        }
    }

    private static void linkedIs(String what, ColdGrid x, int first, int second) {
        x.chain(0, first);
        x.chain(1, second);
        int touching = 0;
        for (int cell = 0; cell < CELLS; cell++) {
            if ((first >> cell & 1) == 1 && (BESIDE[cell] & second) != 0) {
                touching |= 1 << cell;
            }
        }
        boolean apart = touching == 0;
        Due.is(what, x.stands(), apart ? 5 : 0);
        Due.is(what, x.link(0, 1, 0), apart ? ColdGrid.NOT : leastOf(touching));
        Due.is(what, x.link(1, 0, 1), apart ? ColdGrid.NOT : leastOf(BESIDE[leastOf(touching)] & second));
    }

    private static ColdGrid pairOfWeight(int w) {
        ColdGrid x = Pasts.of(2);
        x.weigh(0, 1, w);
        return x;
    }

    private static void everyChainBesideACell() {
        Due.of("16, 17: some CELL of the one neighbours one of the other; LINK: the least CELL .. that neighbours, "
            + "and the least such neighbour");
        for (int set = 1; set < 1 << CELLS; set++) {
            if (TOGETHER[set] && Integer.bitCount(set) <= 13) {
                ColdGrid x = pairOfWeight(1);
                String what = "chain of cells " + set + " beside one cell";
                for (int cell = 0; cell < CELLS; cell++) {
                    if ((set >> cell & 1) == 0) {
                        linkedIs(what, x, set, 1 << cell);
                        linkedIs(what, x, 1 << cell, set);
                    }
                }
            }
        }
    }

    // By hand: cell 6 has its neighbours 1, 5, 7 and 11, of which each two are of the chain around it.
    private static void aCellAmidstAChain() {
        Due.of("16, 17: a CELL that has several neighbours of the other's");
        int[][] around = {{1, 0, 5}, {1, 2, 7}, {11, 10, 5}, {11, 12, 7}, {5, 10, 15, 16, 17, 12, 7},
            {1, 2, 3, 8, 13, 12, 11}, {0, 1, 2, 5, 7, 10, 11, 12}};
        int[] least = {1, 1, 5, 7, 5, 1, 1};
        for (int k = 0; k < around.length; k++) {
            int set = 0;
            for (int cell : around[k]) {
                set |= 1 << cell;
            }
            ColdGrid x = pairOfWeight(-1);
            x.chain(0, 1 << 6);
            x.chain(1, set);
            Due.is("within, number " + k + ", stands()", x.stands(), 0);
            Due.is("within, number " + k + ", link(0, 1, 0)", x.link(0, 1, 0), 6);
            Due.is("within, number " + k + ", link(0, 1, 1)", x.link(0, 1, 1), least[k]);
            x.chain(0, set);
            x.chain(1, 1 << 6);
            Due.is("around, number " + k + ", stands()", x.stands(), 0);
            Due.is("around, number " + k + ", link(0, 1, 0)", x.link(0, 1, 0), least[k]);
            Due.is("around, number " + k + ", link(0, 1, 1)", x.link(0, 1, 1), 6);
        }
    }

    private static int someChain(Random random) {
        int set = 0;
        while (!TOGETHER[set]) {
            set = random.nextInt(1 << CELLS) | random.nextInt(1 << CELLS);
            set &= random.nextInt(1 << CELLS);
        }
        return set;
    }

    private static void twoChains() {
        Due.of("16, 17: LINKS of two CHAINS of any shape");
        Random random = new Random(20);
        int found = 0;
        while (found < 20000) {
            int first = someChain(random);
            int second = someChain(random) & ~first;
            if (TOGETHER[second] && Integer.bitCount(first | second) <= 14) {
                found++;
                linkedIs("chains of cells " + first + " and " + second, pairOfWeight(60), first, second);
            }
        }
    }

    // Letter 1 of one cell is 1 at best; letter 0 then gains its 10 by breaking between its least cell and the link.
    private static void chainsThatBreak() {
        Due.of("18: h for each two neighbours of one CHAIN that are unlike, in CHAINS of any shape");
        Random random = new Random(18);
        int found = 0;
        while (found < 3000) {
            int set = someChain(random);
            int cell = random.nextInt(CELLS);
            int touching = BESIDE[cell] & set;
            if ((set >> cell & 1) == 0 && touching != 0 && Integer.bitCount(set) <= 13) {
                found++;
                int due = strengthOf(set, leastOf(touching));
                breaksBy("chain of cells " + set + " beside " + cell, set, 1 << cell, due, -10, -20);
                breaksBy("cell " + cell + " beside a chain of cells " + set, 1 << cell, set, due, -20, -10);
            }
        }
    }

    private static void breaksBy(String what, int first, int second, int due, int... own) {
        ColdGrid x = Pasts.of(2, own);
        x.weigh(0, 1, 30);
        x.chain(0, first);
        x.chain(1, second);
        Due.is(what, x.strong(), due);
    }

    // Best is -20, with the chain at 0; broken it is -30 and the hold for as few neighbours as part the two cells.
    private static int strengthOf(int set, int linked) {
        if (Integer.bitCount(set) == 1) {
            return 0;
        }
        return linked == leastOf(set) ? 1 : 10 / waysBetween(set, leastOf(set), linked) + 1;
    }

    // As many neighbours part two cells as there are ways between them that share no two neighbours.
    private static int waysBetween(int set, int from, int to) {
        boolean[][] open = new boolean[CELLS][CELLS];
        for (int a = 0; a < CELLS; a++) {
            for (int b = 0; b < CELLS; b++) {
                open[a][b] = (set >> a & 1) == 1 && (set >> b & 1) == 1 && (BESIDE[a] >> b & 1) == 1;
            }
        }
        int[][] used = new int[CELLS][CELLS];
        int ways = 0;
        while (goOn(open, used, from, to, new boolean[CELLS])) {
            ways++;
        }
        return ways;
    }

    private static boolean goOn(boolean[][] open, int[][] used, int here, int to, boolean[] seen) {
        if (here == to) {
            return true;
        }
        seen[here] = true;
        for (int next = 0; next < CELLS; next++) {
            if (open[here][next] && used[here][next] < 1 && !seen[next] && goOn(open, used, next, to, seen)) {
                used[here][next]++;
                used[next][here]--;
                return true;
            }
        }
        return false;
    }
}
