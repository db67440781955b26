/** One method for each promise: ordinary inputs, the edges that the document names, wrong inputs. */
final class PromisesTest {
    private static final int LEAST = Integer.MIN_VALUE;
    private static final int MOST = Integer.MAX_VALUE;

    private PromisesTest() {
    }

    public static void main(String[] args) {
        aNewObject();
        letters();
        weigh();
        weight();
        energy();
        law();
        unlaw();
        best();
        many();
        bestAt();
        pull();
        pullAtItsEnd();
        fixed();
        floor();
        kill();
        chain();
        stands();
        standsByNeighbours();
        link();
        strong();
        readBack();
        turn();
        cut();
        walk();
        count();
        Due.end("PromisesTest");
    }

    private static ColdGrid of(int n, int... own) {
        return Pasts.of(n, own);
    }

    private static void aNewObject() {
        ColdGrid x = new ColdGrid();
        int[] counts = {4, 0, 0, 0, 0, 0};
        for (int what = 0; what < counts.length; what++) {
            Due.is("1: count(" + what + ")", x.count(what), counts[what]);
        }
        for (int i = 0; i < 4; i++) {
            for (int j = 0; j < 4; j++) {
                Due.is("1: weight(" + i + ", " + j + ")", x.weight(i, j), 0);
            }
        }
        Due.is("1: energy(15)", x.energy(15), 0);
        Due.is("1: unlaw()", x.unlaw(), ColdGrid.NOT);
        Due.is("1: stands()", x.stands(), 1);
        for (int cell = 0; cell < 20; cell++) {
            Due.is("1: kill", x.kill(cell, false), 0);
        }
    }

    private static void letters() {
        ColdGrid x = of(3, 5, 6, 7);
        x.weigh(0, 1, 9);
        x.law(7, 1);
        x.chain(0, 1);
        x.chain(2, 2);
        x.kill(7, true);
        x.turn(1);
        for (int n : new int[] {0, 9, -1, LEAST, MOST}) {
            Due.is("2: letters(" + n + ")", x.letters(n), ColdGrid.BAD);
        }
        int[] held = {3, 1, 1, 1, 2, 5};
        for (int what = 0; what < held.length; what++) {
            Due.is("2: refused, count(" + what + ")", x.count(what), held[what]);
        }
        Due.is("2: letters(8)", x.letters(8), 1);
        int[] anew = {8, 0, 0, 1, 0, 0};
        for (int what = 0; what < anew.length; what++) {
            Due.is("2: anew, count(" + what + ")", x.count(what), anew[what]);
        }
        Due.is("2: energy(255)", x.energy(255), 0);
        Due.is("2: kill(7)", x.kill(7, true), 1);
        Due.is("2: readBack(1)", x.readBack(1), ColdGrid.BAD);
        Due.is("2: letters(1)", x.letters(1), 1);
        Due.is("2: energy(1)", x.energy(1), 0);
        Due.is("2: energy(2)", x.energy(2), LEAST);
    }

    private static void weigh() {
        ColdGrid x = new ColdGrid();
        Due.is("3: weigh(0, 0, 60)", x.weigh(0, 0, 60), 0);
        Due.is("3: weigh(0, 0, -60)", x.weigh(0, 0, -60), 60);
        Due.is("3: weigh(1, 3, 7)", x.weigh(1, 3, 7), 0);
        Due.is("3: weigh(3, 1, 8)", x.weigh(3, 1, 8), 7);
        Due.is("3: weigh(1, 3, 8)", x.weigh(1, 3, 8), 8);
        int[][] bad = {{4, 0, 1}, {0, 4, 1}, {-1, 0, 1}, {0, -1, 1}, {0, 0, 61}, {0, 0, -61}, {1, 3, 61}, {1, 3, -61},
            {LEAST, MOST, 0}, {0, 0, LEAST}, {0, 0, MOST}};
        for (int[] b : bad) {
            Due.is("3: weigh(" + b[0] + ", " + b[1] + ", " + b[2] + ")", x.weigh(b[0], b[1], b[2]), LEAST);
        }
        Due.is("3: refused", x.weight(1, 3), 8);
        Due.is("3: refused", x.weight(0, 0), -60);
        x.cut(17);
        Due.is("3: what it was beyond 60", x.weigh(0, 0, 0), -68);
    }

    private static void weight() {
        ColdGrid x = new ColdGrid();
        x.weigh(2, 2, -13);
        x.weigh(3, 0, 14);
        Due.is("4: weight(2, 2)", x.weight(2, 2), -13);
        Due.is("4: weight(0, 3)", x.weight(0, 3), 14);
        Due.is("4: weight(3, 0)", x.weight(3, 0), 14);
        Due.is("4: weight(0, 0)", x.weight(0, 0), 0);
        for (int i : new int[] {-1, 4, 8, LEAST, MOST}) {
            Due.is("4: weight(" + i + ", 0)", x.weight(i, 0), LEAST);
            Due.is("4: weight(0, " + i + ")", x.weight(0, i), LEAST);
        }
    }

    private static void energy() {
        ColdGrid x = of(3, 1, 20, -7);
        x.weigh(0, 2, 30);
        x.weigh(1, 2, -50);
        int[] due = {0, 1, 20, 21, -7, 24, -37, -6};
        for (int state = 0; state < due.length; state++) {
            Due.is("5: energy(" + state + ")", x.energy(state), due[state]);
        }
        x.turn(2);
        for (int state = 0; state < due.length; state++) {
            Due.is("5: turned energy(" + state + ")", x.energy(state), due[state ^ 2]);
        }
        for (int state : new int[] {-1, 8, LEAST, MOST}) {
            Due.is("5: energy(" + state + ")", x.energy(state), LEAST);
        }
    }

    private static void law() {
        ColdGrid x = new ColdGrid();
        int[][] bad = {{0, 0}, {16, 0}, {-1, 0}, {LEAST, 0}, {MOST, 0}, {5, 3}, {5, -1}, {15, 5}, {5, MOST},
            {5, LEAST}};
        for (int[] b : bad) {
            Due.is("6: law(" + b[0] + ", " + b[1] + ")", x.law(b[0], b[1]), ColdGrid.BAD);
        }
        Due.is("6: none told", x.count(2), 0);
        int[][] good = {{1, 0}, {8, 1}, {5, 2}, {15, 4}, {15, 0}, {15, 4}};
        for (int i = 0; i < good.length; i++) {
            Due.is("6: law number " + i, x.law(good[i][0], good[i][1]), i);
        }
        Due.is("6: a seventh", x.law(1, 0), ColdGrid.FULL);
        Due.is("6: BAD ahead of FULL", x.law(0, 0), ColdGrid.BAD);
        Due.is("6: six are kept", x.count(2), 6);
        x.unlaw();
        Due.is("6: room again", x.law(1, 0), 5);
    }

    private static void unlaw() {
        ColdGrid x = new ColdGrid();
        Due.is("7: unlaw()", x.unlaw(), ColdGrid.NOT);
        x.law(15, 2);
        x.law(1, 1);
        Due.is("7: both pull", x.best(1000), 0);
        Due.is("7: unlaw()", x.unlaw(), 1);
        Due.is("7: the last went", x.many(1), 6);
        Due.is("7: unlaw()", x.unlaw(), 0);
        Due.is("7: no pull", x.many(1), 16);
        Due.is("7: unlaw()", x.unlaw(), ColdGrid.NOT);
        Due.is("7: count(2)", x.count(2), 0);
    }

    private static void best() {
        ColdGrid x = of(3, -10, -10, -10);
        Due.is("8: no laws", x.best(1000), -30);
        x.law(7, 0);
        // By how many are 1: 0, p - 10, 4p - 20, 9p - 30.
        int[][] due = {{0, -30}, {1, -21}, {2, -12}, {3, -8}, {4, -6}, {9, -1}, {10, 0}, {1000, 0}};
        for (int[] d : due) {
            Due.is("8: best(" + d[0] + ")", x.best(d[0]), d[1]);
        }
        x.law(7, 3);
        Due.is("8: two laws at odds", x.best(1000), 4980);
        for (int p : new int[] {-1, 1001, LEAST, MOST}) {
            Due.is("8: best(" + p + ")", x.best(p), LEAST);
        }
    }

    private static void many() {
        ColdGrid x = of(3, -10, -10, -10);
        Due.is("9: one", x.many(0), 1);
        x.law(7, 0);
        Due.is("9: many(3)", x.many(3), 3);
        Due.is("9: many(10)", x.many(10), 4);
        Due.is("9: many(11)", x.many(11), 1);
        Due.is("9: all", of(8).many(0), 256);
        Due.is("9: many(1000)", x.many(1000), 1);
        for (int p : new int[] {-1, 1001, LEAST, MOST}) {
            Due.is("9: many(" + p + ")", x.many(p), ColdGrid.BAD);
        }
    }

    private static void bestAt() {
        ColdGrid x = of(3, -10, -10, -10);
        x.law(7, 0);
        int[] due = {0, 1, 2, 4};
        for (int k = 0; k < due.length; k++) {
            Due.is("10: bestAt(10, " + k + ")", x.bestAt(10, k), due[k]);
        }
        for (int k : new int[] {-1, 4, LEAST, MOST}) {
            Due.is("10: bestAt(10, " + k + ")", x.bestAt(10, k), ColdGrid.BAD);
        }
        for (int p : new int[] {-1, 1001, LEAST, MOST}) {
            Due.is("10: bestAt(" + p + ", 0)", x.bestAt(p, 0), ColdGrid.BAD);
        }
        Due.is("10: bestAt(0, 0)", x.bestAt(0, 0), 7);
        Due.is("10: bestAt(1000, 0)", x.bestAt(1000, 0), 0);
    }

    private static void pull() {
        ColdGrid x = of(3, -10, -10, -10);
        Due.is("11: no laws", x.pull(), 0);
        x.law(7, 3);
        Due.is("11: kept without pull", x.pull(), 0);
        x.unlaw();
        x.law(7, 0);
        Due.is("11: like weight is not enough", x.pull(), 11);
        x.law(1, 1);
        Due.is("11: at odds", x.pull(), ColdGrid.NONE);
        x.unlaw();
        x.unlaw();
        x.law(7, 1);
        // Two or three that are 1: p - 20 and 4p - 30, against -10.
        Due.is("11: one of three", x.pull(), 11);
        ColdGrid far = of(2, -30, 10);
        far.law(3, 0);
        far.weigh(0, 1, -39);
        // Both: 4p - 59, so p 15; one: p - 30, so p 31.
        Due.is("11: the greater of two", far.pull(), 31);
        ColdGrid none = of(1, 60);
        none.law(1, 1);
        Due.is("11: against the state of none", none.pull(), 61);
    }

    // Laws that leave two states of letters 0 to 5, of which the sixth law misses the far better one by one alone.
    private static void pullAtItsEnd() {
        ColdGrid x = of(8);
        for (int i = 0; i < 5; i++) {
            x.law(3 << i, 1);
        }
        x.law(1, 1);
        for (int i = 0; i < 8; i++) {
            for (int j = 0; j <= i; j++) {
                boolean wanted = (i % 2 == 0 && i < 6) || (j % 2 == 0 && j < 6);
                x.weigh(i, j, wanted ? 60 : -60);
            }
        }
        Due.is("11: far above", x.pull(), 1001);
        x.weigh(0, 0, -60);
        x.weigh(2, 2, -60);
        x.weigh(4, 4, 40);
        Due.is("11: keeper", x.energy(21) - x.energy(234), 1000);
        Due.is("11: just above", x.pull(), 1001);
        Due.is("11: two best", x.many(1000), 2);
        x.weigh(4, 4, 39);
        Due.is("11: just within", x.pull(), 1000);
        Due.is("11: one best", x.many(1000), 1);
        x.weigh(4, 4, 38);
        Due.is("11: within", x.pull(), 999);
    }

    private static void fixed() {
        Due.is("12: 0 ahead of 1", new ColdGrid().fixed(0), 15);
        Due.is("12: 0 ahead of 1", new ColdGrid().fixed(1), 0);
        ColdGrid x = of(2, -1, 3);
        x.weigh(0, 1, 5);
        // Letter 0 may be fixed only once letter 1 is, by a second going through.
        Due.is("12: a second going", x.fixed(0), 3);
        Due.is("12: a second going", x.fixed(1), 1);
        x.weigh(1, 1, -3);
        Due.is("12: none", x.fixed(0), 0);
        Due.is("12: none", x.fixed(1), 0);
        ColdGrid y = of(3, -5, 4, 9);
        y.weigh(0, 1, -4);
        y.weigh(1, 2, -1);
        // Letter 0 is 1, by which OWN of 1 is 0: with the -1 of its pair with 2 too little for 0, but enough for 1.
        Due.is("12: with own", y.fixed(0), 7);
        Due.is("12: with own", y.fixed(1), 3);
        y.weigh(1, 1, 5);
        Due.is("12: with own", y.fixed(0), 7);
        Due.is("12: with own", y.fixed(1), 1);
        ColdGrid z = of(2, -4, -1);
        z.weigh(0, 1, 4);
        Due.is("12: 0 or less", z.fixed(0), 3);
        Due.is("12: then 0 or more", z.fixed(1), 1);
        z.weigh(0, 1, 5);
        Due.is("12: above 0", z.fixed(0), 0);
        z.law(1, 0);
        Due.is("12: laws are not looked at", z.fixed(0), 0);
        ColdGrid row = of(8, 1, 1, 1, 1, 1, 1, 1, -1);
        for (int i = 0; i < 7; i++) {
            row.weigh(i, i + 1, -2);
        }
        // Letter 7 first, and each other one going later than the one above it.
        Due.is("12: eight goings", row.fixed(0), 255);
        Due.is("12: eight goings", row.fixed(1), 255);
        for (int way : new int[] {-1, 2, LEAST, MOST}) {
            Due.is("12: fixed(" + way + ")", x.fixed(way), ColdGrid.BAD);
        }
    }

    private static void floor() {
        ColdGrid x = of(4, -3, 5, -7, 0);
        x.weigh(0, 1, -11);
        x.weigh(2, 3, 13);
        x.weigh(3, 0, -17);
        Due.is("13: floor()", x.floor(), -38);
        Due.is("13: floor() of none", of(8).floor(), 0);
        ColdGrid y = of(1, 60);
        Due.is("13: none below 0", y.floor(), 0);
        y.turn(1);
        Due.is("13: with the constant", y.floor(), 0);
        y.weigh(0, 0, -1);
        Due.is("13: with the constant", y.floor(), 59);
    }

    private static void kill() {
        ColdGrid x = new ColdGrid();
        Due.is("14: kill(0, true)", x.kill(0, true), 0);
        Due.is("14: kill(0, true)", x.kill(0, true), 1);
        Due.is("14: kill(19, true)", x.kill(19, true), 0);
        Due.is("14: two", x.count(3), 2);
        for (int cell : new int[] {-1, 20, 32, LEAST, MOST}) {
            Due.is("14: kill(" + cell + ", true)", x.kill(cell, true), ColdGrid.BAD);
            Due.is("14: kill(" + cell + ", false)", x.kill(cell, false), ColdGrid.BAD);
        }
        Due.is("14: still two", x.count(3), 2);
        Due.is("14: kill(0, false)", x.kill(0, false), 1);
        Due.is("14: kill(0, false)", x.kill(0, false), 0);
        Due.is("14: one", x.count(3), 1);
    }

    private static void chain() {
        ColdGrid x = new ColdGrid();
        Due.is("15: all cells", x.chain(0, 1048575), 20);
        Due.is("15: three", x.chain(3, 7), 3);
        Due.is("15: a new one instead", x.chain(0, 1 << 19), 1);
        Due.is("15: together", x.count(4), 4);
        int[][] bad = {{4, 1}, {-1, 1}, {LEAST, 1}, {MOST, 1}, {0, 1048576}, {0, -1}, {0, LEAST}, {0, MOST}};
        for (int[] b : bad) {
            Due.is("15: chain(" + b[0] + ", " + b[1] + ")", x.chain(b[0], b[1]), ColdGrid.BAD);
        }
        Due.is("15: refused", x.count(4), 4);
        Due.is("15: none", x.chain(3, 0), 0);
        Due.is("15: together", x.count(4), 1);
    }

    private static void stands() {
        ColdGrid x = of(3);
        x.weigh(0, 2, 1);
        // All six fail at once, and are mended one by one.
        x.kill(9, true);
        x.chain(0, 0b00000_00000_11111_11111);
        x.chain(1, 0b00001_10000_00000_00001);
        Due.is("16: a letter without a cell", x.stands(), 1);
        x.chain(2, 0b11110_00000_00000_00000);
        Due.is("16: a dead cell", x.stands(), 2);
        x.kill(9, false);
        Due.is("16: a cell of two", x.stands(), 3);
        x.chain(1, 0b00001_10000_00000_00000);
        Due.is("16: a torn chain", x.stands(), 4);
        x.chain(1, 0b00001_00000_00000_00000);
        Due.is("16: a pair apart", x.stands(), 5);
        x.weigh(0, 2, 0);
        Due.is("16: fifteen", x.stands(), 6);
        x.chain(2, 0b11100_00000_00000_00000);
        Due.is("16: fourteen", x.stands(), 0);
        x.kill(14, true);
        Due.is("16: a dead cell of no chain", x.stands(), 0);
        x.kill(0, true);
        Due.is("16: a dead cell of a chain", x.stands(), 2);
    }

    private static void standsByNeighbours() {
        for (int a = 0; a < 20; a++) {
            for (int b = 0; b < 20; b++) {
                if (a != b) {
                    boolean beside = Math.abs(a / 5 - b / 5) + Math.abs(a % 5 - b % 5) == 1;
                    ColdGrid x = of(1);
                    x.chain(0, 1 << a | 1 << b);
                    Due.is("16: chain of " + a + " and " + b, x.stands(), beside ? 0 : 4);
                    ColdGrid y = of(2);
                    y.weigh(0, 1, -1);
                    y.chain(0, 1 << a);
                    y.chain(1, 1 << b);
                    Due.is("16: pair of " + a + " and " + b, y.stands(), beside ? 0 : 5);
                }
            }
        }
    }

    private static void link() {
        ColdGrid x = of(3);
        x.weigh(0, 1, 5);
        x.chain(0, 1 << 0 | 1 << 5 | 1 << 10);
        x.chain(1, 1 << 1 | 1 << 6 | 1 << 11);
        Due.is("17: a letter without a cell", x.link(0, 1, 0), ColdGrid.NOT);
        x.chain(2, 1 << 19);
        Due.is("17: the least", x.link(0, 1, 0), 0);
        Due.is("17: the least", x.link(0, 1, 1), 1);
        x.chain(0, 1 << 6 | 1 << 7 | 1 << 11);
        x.chain(1, 1 << 10 | 1 << 5 | 1 << 0 | 1 << 1);
        Due.is("17: the least of 6's neighbours", x.link(0, 1, 0), 6);
        Due.is("17: the least of 6's neighbours", x.link(0, 1, 1), 1);
        Due.is("17: the other way around", x.link(1, 0, 0), 6);
        Due.is("17: the other way around", x.link(1, 0, 1), 1);
        x.chain(0, 1 << 10 | 1 << 5 | 1 << 0 | 1 << 1);
        x.chain(1, 1 << 6 | 1 << 7 | 1 << 11);
        Due.is("17: from the lesser letter", x.link(1, 0, 0), 1);
        Due.is("17: from the lesser letter", x.link(1, 0, 1), 6);
        Due.is("17: weight 0", x.link(0, 2, 0), ColdGrid.NOT);
        int[][] bad = {{0, 0, 0}, {0, 3, 0}, {3, 0, 0}, {-1, 0, 0}, {0, -1, 1}, {0, 1, 2}, {0, 1, -1}, {LEAST, MOST, 0},
            {0, 1, LEAST}};
        for (int[] b : bad) {
            Due.is("17: link(" + b[0] + ", " + b[1] + ", " + b[2] + ")", x.link(b[0], b[1], b[2]), ColdGrid.BAD);
        }
        x.kill(6, true);
        Due.is("17: no longer standing", x.link(0, 1, 0), ColdGrid.NOT);
        Due.is("17: BAD ahead of NOT", x.link(0, 1, 2), ColdGrid.BAD);
    }

    private static void strong() {
        ColdGrid x = of(2, -10, -20);
        x.weigh(0, 1, 30);
        Due.is("18: no chains", x.strong(), ColdGrid.NOT);
        x.chain(0, 1 << 0 | 1 << 1);
        x.chain(1, 1 << 2);
        // Best is -20; broken 1 0 1 has -30 and the hold once.
        Due.is("18: once", x.strong(), 11);
        x.chain(0, 1 << 0 | 1 << 1 | 1 << 5 | 1 << 6);
        Due.is("18: twice", x.strong(), 6);
        x.weigh(1, 1, 0);
        // Best is -10, as is any broken one without hold.
        Due.is("18: as little is too little", x.strong(), 1);
        x.chain(0, 1 << 1);
        Due.is("18: none can break", x.strong(), 0);
        x.weigh(0, 0, -60);
        x.weigh(1, 1, -60);
        x.weigh(0, 1, 60);
        x.chain(0, 1 << 0 | 1 << 1);
        Due.is("18: the greatest of one link", x.strong(), 61);
        x.law(3, 0);
        Due.is("18: laws are not looked at", x.strong(), 61);
        x.weigh(0, 1, -60);
        // Best is -180, each broken one -120 at least.
        Due.is("18: none asks for hold", x.strong(), 0);
        ColdGrid y = of(1, -60);
        y.turn(1);
        y.chain(0, 16383);
        Due.is("18: with a constant", y.strong(), 1);
        y.chain(0, 32767);
        Due.is("18: fifteen", y.strong(), ColdGrid.NOT);
    }

    private static void readBack() {
        ColdGrid x = of(3);
        x.chain(0, 1 << 0 | 1 << 1);
        x.chain(1, 1 << 2 | 1 << 3 | 1 << 4);
        Due.is("19: not standing", x.readBack(1), ColdGrid.NOT);
        Due.is("19: BAD ahead of NOT", x.readBack(1 << 5), ColdGrid.BAD);
        x.chain(2, 1 << 9 | 1 << 13 | 1 << 14 | 1 << 8);
        int[][] due = {{0, 0}, {1, 1}, {2, 0}, {3, 1}, {4, 0}, {12, 2}, {20, 2}, {24, 2}, {28, 2}, {16, 0},
            {1 << 8 | 1 << 14, 4}, {1 << 9 | 1 << 13, 0}, {1 << 9 | 1 << 13 | 1 << 14, 4}, {1 << 8, 0},
            {1 | 1 << 3 | 1 << 4 | 1 << 8 | 1 << 9, 7}};
        for (int[] d : due) {
            Due.is("19: readBack(" + d[0] + ")", x.readBack(d[0]), d[1]);
        }
        for (int cells : new int[] {1 << 5, 1 | 1 << 19, 1 << 20, -1, LEAST, MOST}) {
            Due.is("19: readBack(" + cells + ")", x.readBack(cells), ColdGrid.BAD);
        }
    }

    private static void turn() {
        ColdGrid x = of(3, 10, -20, 5);
        x.weigh(0, 1, 7);
        x.weigh(1, 2, -9);
        x.weigh(0, 2, 3);
        Due.is("20: turn(3)", x.turn(3), -3);
        int[] due = {-17, 13, -1, 7, 9, -3};
        int[] got = {x.weight(0, 0), x.weight(1, 1), x.weight(2, 2), x.weight(0, 1), x.weight(1, 2), x.weight(0, 2)};
        for (int k = 0; k < due.length; k++) {
            Due.is("20: weight number " + k, got[k], due[k]);
        }
        Due.is("20: count(5)", x.count(5), -3);
        Due.is("20: none", x.turn(0), -3);
        Due.is("20: back", x.turn(3), 0);
        Due.is("20: back", x.weight(1, 1), -20);
        for (int set : new int[] {-1, 8, LEAST, MOST}) {
            Due.is("20: turn(" + set + ")", x.turn(set), LEAST);
        }
        ColdGrid y = of(2, 30, 30);
        y.weigh(0, 1, 30);
        Due.is("20: just 60", y.turn(1), 30);
        Due.is("20: just 60", y.weight(1, 1), 60);
        y.turn(1);
        y.weigh(0, 1, 31);
        Due.is("20: 61", y.turn(1), ColdGrid.NOT);
        Due.is("20: nothing changed", y.weight(0, 0), 30);
        Due.is("20: nothing changed", y.weight(1, 0), 31);
        Due.is("20: nothing changed", y.count(5), 0);
        y.weigh(0, 0, -30);
        y.weigh(1, 1, -30);
        y.weigh(0, 1, -31);
        Due.is("20: -61", y.turn(1), ColdGrid.NOT);
        ColdGrid z = of(2, 60);
        z.cut(13);
        Due.is("20: a weight that stays beyond 60", z.turn(2), ColdGrid.NOT);
        Due.is("20: a weight that stays beyond 60", z.turn(0), ColdGrid.NOT);
        Due.is("20: BAD ahead of NOT", z.turn(4), LEAST);
    }

    private static void cut() {
        ColdGrid x = of(8, 5, -5, 6, -6, 15, -15, 60, 0);
        x.weigh(0, 7, -26);
        x.weigh(1, 7, 25);
        // Differences of letters -5, 5, 4, -4, -5, 5, 0, 0, of the pairs -4 and -5: most with 0, 3, 4 and 7.
        Due.is("21: cut(10)", x.cut(10), 18);
        int[] due = {0, 0, 10, -10, 10, -10, 60, 0};
        for (int i = 0; i < due.length; i++) {
            Due.is("21: weight(" + i + ", " + i + ")", x.weight(i, i), due[i]);
        }
        Due.is("21: weight(0, 7)", x.weight(0, 7), -30);
        Due.is("21: weight(7, 1)", x.weight(7, 1), 20);
        Due.is("21: cut(1)", x.cut(1), 0);
        Due.is("21: cut(17)", of(1, 60).cut(17), 8);
        Due.is("21: cut(20)", of(1, -50).cut(20), 10);
        ColdGrid y = of(2, 3, -3);
        y.turn(1);
        Due.is("21: both ways", y.cut(2), 2);
        Due.is("21: the constant is not cut", y.count(5), 3);
        for (int s : new int[] {0, 21, -1, LEAST, MOST}) {
            Due.is("21: cut(" + s + ")", y.cut(s), ColdGrid.BAD);
        }
        Due.is("21: refused", y.weight(0, 0), -2);
    }

    private static void walk() {
        ColdGrid x = of(4, 0, 0, 32, 0);
        // From seed 1 z is 1103527590: letter 16838 modulo 4 is 2; 4310654 modulo 51 is 32.
        Due.is("22: as much as", x.walk(0, 1, 50, 1, 0), 4);
        Due.is("22: the beginning is met", x.walk(0, 1, 50, 1, 1), 0);
        x.weigh(2, 2, 33);
        Due.is("22: more", x.walk(0, 1, 50, 1, 0), 0);
        Due.is("22: less energy", x.walk(4, 1, 0, 1, 0), 0);
        Due.is("22: less energy", x.walk(4, 1, 0, 1, 1), 0);
        x.weigh(2, 2, 1);
        Due.is("22: without heat", x.walk(0, 1, 0, 1, 0), 0);
        x.weigh(2, 2, 0);
        Due.is("22: not more", x.walk(15, 1, 0, 1, 0), 11);
        int[][] bad = {{-1, 0, 0, 1, 0}, {16, 0, 0, 1, 0}, {0, 0, -1, 1, 0}, {0, 0, 101, 1, 0}, {0, 0, 0, 0, 0},
            {0, 0, 0, 201, 0}, {0, 0, 0, 1, -1}, {0, 0, 0, 1, 2}, {LEAST, LEAST, LEAST, LEAST, LEAST},
            {MOST, MOST, MOST, MOST, MOST}};
        for (int[] b : bad) {
            Due.is("22: wrong", x.walk(b[0], b[1], b[2], b[3], b[4]), LEAST);
        }
        Due.is("22: nothing is changed", x.energy(15), 0);
        walkThatCools();
    }

    // One letter of weight 1: by heat 1 it stays 0 or not by one bit of z, and by heat 0, from move 11 on, it stays 0.
    private static void walkThatCools() {
        for (int seed : new int[] {0, 1, -1, 77, LEAST, MOST}) {
            ColdGrid x = of(1, 1);
            long z = seed;
            int here = 0;
            for (int move = 1; move <= 200; move++) {
                z = Math.floorMod(z * 1103515245L + 12345L, 1L << 31);
                boolean mayRise = move <= 10 && z / 256 % 2 == 1;
                here = here == 0 && mayRise ? 1 : 0;
                Due.is("22: by seed " + seed + ", " + move + " moves", x.walk(0, seed, 1, move, 0), here);
                Due.is("22: least", x.walk(1, seed, 1, move, 1), 0);
            }
        }
    }

    private static void count() {
        ColdGrid x = of(5, 4, 3);
        x.weigh(0, 1, 2);
        x.weigh(4, 2, -2);
        x.weigh(3, 2, 0);
        x.law(1, 1);
        x.law(2, 1);
        x.law(4, 1);
        x.kill(3, true);
        x.kill(4, true);
        x.kill(5, true);
        x.kill(6, true);
        x.chain(0, 31);
        x.chain(1, 31);
        x.turn(3);
        int[] due = {5, 2, 3, 4, 10, 9};
        for (int what = 0; what < due.length; what++) {
            Due.is("23: count(" + what + ")", x.count(what), due[what]);
        }
        for (int what : new int[] {-1, 6, LEAST, MOST}) {
            Due.is("23: count(" + what + ")", x.count(what), LEAST);
        }
    }
}
