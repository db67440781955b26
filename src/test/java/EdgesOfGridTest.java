/** Each sentence about cells, chains, links, strength and reading back that names a bound: both of its sides. */
final class EdgesOfGridTest {
    private static final int LEAST = Integer.MIN_VALUE;
    private static final int MOST = Integer.MAX_VALUE;
    private static final int ALL = 1048575;

    private EdgesOfGridTest() {
    }

    public static void main(String[] args) {
        twentyCells();
        noneDeadAtFirst();
        whetherItWas();
        cellsOfAChain();
        aChainInPlaceOfAnother();
        neighbours();
        eachLetterHasACell();
        noCellIsDead();
        noneOfTwoChains();
        eachChainHangsTogether();
        eachPairWithAWeight();
        fourteenCells();
        theFirstThatFails();
        leastCellsOfALink();
        lettersAndWaysOfALink();
        linksOfNoWeight();
        linksThatDoNotStand();
        noneBroken();
        asLittle();
        eachTwoUnlike();
        ownAtTheLeastCell();
        bothCellsOfALink();
        strongOfEightLetters();
        strongOfFourteen();
        strongOfWhatIsNow();
        strongOfSeveralBroken();
        strongWithoutBound();
        strongThatDoesNotStand();
        mostCells();
        asManyCells();
        cellsOfNoChain();
        readBackThatDoesNotStand();
        Due.end("EdgesOfGridTest");
    }

    private static ColdGrid laid(int n, int... chains) {
        ColdGrid x = Pasts.of(n);
        for (int i = 0; i < chains.length; i++) {
            x.chain(i, chains[i]);
        }
        return x;
    }

    private static void twentyCells() {
        Due.of("14: 4 rows of 5 CELLS, numbered row by row from 0; BAD");
        ColdGrid x = new ColdGrid();
        for (int cell = 0; cell < 20; cell++) {
            Due.is("kill(" + cell + ", true)", x.kill(cell, true), 0);
            Due.is("count(3)", x.count(3), cell + 1);
        }
        for (int cell : new int[] {-1, 20, -2, 21, 31, 32, LEAST, MOST}) {
            Twins.unchanged(Pasts::rich, "kill(" + cell + ", true)", y -> y.kill(cell, true), ColdGrid.BAD);
            Twins.unchanged(Pasts::rich, "kill(" + cell + ", false)", y -> y.kill(cell, false), ColdGrid.BAD);
        }
    }

    private static void noneDeadAtFirst() {
        Due.of("Some are DEAD (none at first)");
        ColdGrid x = new ColdGrid();
        Due.is("count(3)", x.count(3), 0);
        for (int cell = 0; cell < 20; cell++) {
            Due.is("kill(" + cell + ", false)", x.kill(cell, false), 0);
        }
        Due.is("count(3) still", x.count(3), 0);
    }

    private static void whetherItWas() {
        Due.of("14: DEAD from now on, or not: whether it was (1, 0)");
        ColdGrid x = new ColdGrid();
        for (int cell : new int[] {0, 4, 5, 19}) {
            Due.is("first true", x.kill(cell, true), 0);
            Due.is("true again", x.kill(cell, true), 1);
            Due.is("one more is dead", x.count(3), 1);
            Due.is("first false", x.kill(cell, false), 1);
            Due.is("false again", x.kill(cell, false), 0);
            Due.is("none is dead", x.count(3), 0);
        }
    }

    private static void cellsOfAChain() {
        Due.of("15: how many CELLS. BAD: other bits than of 20 CELLS");
        ColdGrid x = new ColdGrid();
        Due.is("none", x.chain(0, 0), 0);
        Due.is("the first", x.chain(0, 1), 1);
        Due.is("the last", x.chain(0, 1 << 19), 1);
        Due.is("all", x.chain(0, ALL), 20);
        Due.is("all but one", x.chain(3, ALL - 1), 19);
        for (int cells : new int[] {ALL + 1, ALL + 2, -1, 1 << 30, LEAST, LEAST + 1, MOST}) {
            Twins.unchanged(Pasts::rich, "chain(2, " + cells + ")", y -> y.chain(2, cells), ColdGrid.BAD);
        }
        for (int letter : new int[] {3, -1, LEAST, MOST}) {
            Twins.unchanged(Pasts::rich, "chain(" + letter + ", 1)", y -> y.chain(letter, 1), ColdGrid.BAD);
        }
    }

    private static void aChainInPlaceOfAnother() {
        Due.of("15: CHAIN of a LETTER");
        ColdGrid x = laid(2, 1, 2);
        Due.is("another", x.chain(0, 1 << 6), 1);
        Due.is("the one before is gone", x.readBack(1), ColdGrid.BAD);
        Due.is("that of 1 is as it was", x.readBack(2), 2);
        Due.is("none again", x.chain(0, 0), 0);
        Due.is("stands()", x.stands(), 1);
        Due.is("count(4)", x.count(4), 1);
        // Dead cells and cells of others may be told; then chains do not stand.
        x.kill(7, true);
        Due.is("a dead cell", x.chain(0, 1 << 7), 1);
        Due.is("a cell of another", x.chain(0, 2), 1);
    }

    private static void neighbours() {
        Due.of("neighbours are those side by side, and one below the other");
        int[][] beside = {{0, 1}, {3, 4}, {0, 5}, {4, 9}, {10, 15}, {14, 19}, {18, 19}, {15, 16}, {7, 12}, {12, 13}};
        int[][] apart = {{4, 5}, {9, 10}, {14, 15}, {0, 4}, {15, 19}, {0, 6}, {1, 5}, {8, 12}, {0, 15}, {4, 19},
            {0, 19}, {0, 2}, {0, 10}, {4, 15}, {3, 13}};
        for (int[] b : beside) {
            besideOrApart(b[0], b[1], 0, 0);
        }
        for (int[] a : apart) {
            besideOrApart(a[0], a[1], 4, 5);
        }
    }

    private static void besideOrApart(int a, int b, int ofOne, int ofTwo) {
        Due.is("chain of " + a + " and " + b, laid(1, 1 << a | 1 << b).stands(), ofOne);
        ColdGrid x = laid(2, 1 << a, 1 << b);
        x.weigh(0, 1, 1);
        Due.is("pair of " + a + " and " + b, x.stands(), ofTwo);
        ColdGrid y = laid(2, 1 << b, 1 << a);
        y.weigh(0, 1, 1);
        Due.is("pair of " + b + " and " + a, y.stands(), ofTwo);
    }

    private static void eachLetterHasACell() {
        Due.of("16: 1 each LETTER has a CELL");
        for (int n = 1; n <= 8; n++) {
            for (int without = 0; without < n; without++) {
                ColdGrid x = Pasts.of(n);
                for (int i = 0; i < n; i++) {
                    x.chain(i, i == without ? 0 : 1 << i);
                }
                Due.is(n + " letters, " + without + " has none", x.stands(), 1);
                x.chain(without, 1 << without);
                Due.is(n + " letters, all have one", x.stands(), 0);
            }
        }
    }

    private static void noCellIsDead() {
        Due.of("16: 2 no CELL is DEAD");
        for (int cell = 0; cell < 20; cell++) {
            ColdGrid x = laid(1, 1 << cell);
            for (int other = 0; other < 20; other++) {
                if (other != cell) {
                    x.kill(other, true);
                }
            }
            Due.is("all dead but " + cell, x.stands(), 0);
            x.kill(cell, true);
            Due.is(cell + " is dead, too", x.stands(), 2);
            x.kill(cell, false);
            Due.is(cell + " lives again", x.stands(), 0);
        }
        ColdGrid last = laid(8, 1, 2, 4, 8, 16, 32, 64, 128 | 1 << 12);
        last.kill(12, true);
        Due.is("one of two cells of the last letter", last.stands(), 2);
    }

    private static void noneOfTwoChains() {
        Due.of("16: 3 none is of two CHAINS");
        for (int cell = 0; cell < 20; cell++) {
            Due.is("cell " + cell + " of both", laid(2, 1 << cell, 1 << cell).stands(), 3);
        }
        Due.is("the last cell of the first is the first of the last", laid(3, 3, 1 << 9, 6).stands(), 3);
        Due.is("side by side", laid(3, 3, 1 << 9, 12).stands(), 0);
        Due.is("of eight the last two", laid(8, 1, 2, 4, 8, 16, 32, 64, 64).stands(), 3);
        Due.is("of all three", laid(3, 1, 1, 1).stands(), 3);
    }

    private static void eachChainHangsTogether() {
        Due.of("16: 4 each CHAIN hangs together by neighbours");
        int snake = 0b00001_11111_10000_11111;
        Due.is("one cell", laid(1, 1 << 19).stands(), 0);
        Due.is("a snake", laid(1, snake).stands(), 0);
        Due.is("a snake without a cell of its midst", laid(1, snake & ~(1 << 9)).stands(), 4);
        Due.is("a snake without a cell ahead of its end", laid(1, snake & ~(1 << 10)).stands(), 4);
        Due.is("a snake without its end", laid(1, snake & ~(1 << 15)).stands(), 0);
        Due.is("a ring", laid(1, 0b00000_00111_00101_00111).stands(), 0);
        Due.is("a ring and a cell within", laid(1, 0b00111_00101_00101_00111 | 1 << 6).stands(), 0);
        Due.is("two corners", laid(1, 1 | 1 << 6).stands(), 4);
        Due.is("from a row's end to the next one's beginning", laid(1, 0b00000_00000_00001_10000).stands(), 4);
        Due.is("the last letter's", laid(8, 1, 2, 4, 8, 16, 32, 64, 1 << 8 | 1 << 10).stands(), 4);
        Due.is("together only by another chain", laid(2, 5, 2).stands(), 4);
    }

    private static void eachPairWithAWeight() {
        Due.of("16: 5 for each PAIR with a WEIGHT other than 0 some CELL of the one neighbours one of the other");
        for (int w : new int[] {1, -1, 60, -60, 0}) {
            ColdGrid x = laid(2, 1, 1 << 19);
            x.weigh(0, 1, w);
            Due.is("apart, weight " + w, x.stands(), w == 0 ? 0 : 5);
            x.chain(1, 2);
            Due.is("beside, weight " + w, x.stands(), 0);
        }
        for (int i = 0; i < 8; i++) {
            for (int j = i + 1; j < 8; j++) {
                // No two of these cells are neighbours.
                ColdGrid x = laid(8, 1 << 0, 1 << 2, 1 << 4, 1 << 6, 1 << 8, 1 << 10, 1 << 12, 1 << 14);
                Due.is("all apart, no weight", x.stands(), 0);
                x.weigh(i, j, -1);
                Due.is("the pair of " + i + " and " + j, x.stands(), 5);
            }
        }
        ColdGrid own = laid(1, 1);
        own.weigh(0, 0, 60);
        Due.is("a letter's own weight asks for nothing", own.stands(), 0);
        ColdGrid cut = laid(2, 1, 1 << 19);
        cut.weigh(0, 1, 10);
        Due.is("10", cut.stands(), 5);
        cut.cut(20);
        Due.is("10 cut to 0", cut.stands(), 0);
    }

    private static void fourteenCells() {
        Due.of("16: 6 they have 14 CELLS together at most");
        Due.is("14 of one", laid(1, 0x3fff).stands(), 0);
        Due.is("15 of one", laid(1, 0x7fff).stands(), 6);
        Due.is("20 of one", laid(1, ALL).stands(), 6);
        Due.is("7 and 7", laid(2, 0x7f, 0x3f80).stands(), 0);
        Due.is("7 and 8", laid(2, 0x7f, 0x7f80).stands(), 6);
        Due.is("7 of one each, and 7", laid(8, 1, 2, 4, 8, 16, 32, 64, 0x3f80).stands(), 0);
        Due.is("7 of one each, and 8", laid(8, 1, 2, 4, 8, 16, 32, 64, 0x7f80).stands(), 6);
        ColdGrid x = laid(1, 0x3fff);
        for (int cell = 14; cell < 20; cell++) {
            x.kill(cell, true);
        }
        Due.is("dead ones are none of them", x.stands(), 0);
    }

    private static void theFirstThatFails() {
        Due.of("16: the first of these that fails being told; 0: CHAINS STAND");
        for (int number = 0; number <= 6; number++) {
            Due.is("just " + number, Pasts.failing(number).stands(), number);
        }
        ColdGrid x = laid(3, 0b00000_00000_11111_11111, 0b00001_10000_00000_00001);
        x.weigh(0, 2, 1);
        x.kill(9, true);
        // Six fail at once, and are mended from the first on.
        Due.is("1 ahead of 2", x.stands(), 1);
        x.chain(2, 0b11110_00000_00000_00000);
        Due.is("2 ahead of 3", x.stands(), 2);
        x.kill(9, false);
        Due.is("3 ahead of 4", x.stands(), 3);
        x.chain(1, 0b00001_10000_00000_00000);
        Due.is("4 ahead of 5", x.stands(), 4);
        x.chain(1, 0b00001_00000_00000_00000);
        Due.is("5 ahead of 6", x.stands(), 5);
        x.weigh(0, 2, 0);
        Due.is("6", x.stands(), 6);
        x.chain(2, 0b11100_00000_00000_00000);
        Due.is("none", x.stands(), 0);
        Twins.unchanged(() -> Pasts.failing(5), "stands()", ColdGrid::stands, 5);
    }

    private static ColdGrid linked(int first, int second) {
        ColdGrid x = laid(2, first, second);
        x.weigh(0, 1, 1);
        return x;
    }

    private static void linkIs(String what, ColdGrid x, int lesser, int other) {
        Due.is(what + ", link(0, 1, 0)", x.link(0, 1, 0), lesser);
        Due.is(what + ", link(0, 1, 1)", x.link(0, 1, 1), other);
        Due.is(what + ", link(1, 0, 0)", x.link(1, 0, 0), lesser);
        Due.is(what + ", link(1, 0, 1)", x.link(1, 0, 1), other);
    }

    private static void leastCellsOfALink() {
        Due.of("17: the least CELL of the LETTER with the lesser number that neighbours one of the other's, "
            + "and the least such neighbour");
        linkIs("the first cells", linked(1, 2), 0, 1);
        linkIs("the last cells", linked(1 << 19, 1 << 18), 19, 18);
        linkIs("one of many touches", linked(0b00001_00001_00001, 1 << 11), 10, 11);
        linkIs("all touch", linked(0b00001_00001_00001, 0b00010_00010_00010), 0, 1);
        // Cell 6 has three neighbours of the other's: 1, 5 and 7; cell 11 is greater.
        linkIs("three neighbours", linked(1 << 6 | 1 << 11, 0b00111 | 1 << 5 | 1 << 7), 6, 1);
        // The least cell of the lesser, though a lesser cell of the other's touches a greater one.
        linkIs("least of the lesser first", linked(1 << 2 | 1 << 7 | 1 << 6, 1 << 1 | 1 << 0 | 1 << 5), 2, 1);
        linkIs("not the other's least", linked(1 << 5 | 1 << 6, 1 << 1 | 1 << 2 | 1 << 3 | 1 << 8 | 1 << 7
            | 1 << 12 | 1 << 11 | 1 << 10), 5, 10);
    }

    private static void lettersAndWaysOfALink() {
        Due.of("17: the CELL of the lesser LETTER (way 0), of the other (1). BAD");
        for (int way : new int[] {-1, 2, -2, 3, LEAST, MOST}) {
            Twins.unchanged(Pasts::rich, "link(0, 1, " + way + ")", x -> x.link(0, 1, way), ColdGrid.BAD);
        }
        for (int i = 0; i < 3; i++) {
            int same = i;
            Twins.unchanged(Pasts::rich, "link(" + i + ", " + i + ", 0)", x -> x.link(same, same, 0), ColdGrid.BAD);
        }
        for (int i : new int[] {-1, 3, LEAST, MOST}) {
            Twins.unchanged(Pasts::rich, "link(" + i + ", 0, 0)", x -> x.link(i, 0, 0), ColdGrid.BAD);
            Twins.unchanged(Pasts::rich, "link(0, " + i + ", 1)", x -> x.link(0, i, 1), ColdGrid.BAD);
        }
        Twins.unchanged(Pasts::rich, "link(1, 2, 0)", x -> x.link(1, 2, 0), 2);
        Twins.unchanged(Pasts::rich, "link(1, 2, 1)", x -> x.link(1, 2, 1), 7);
    }

    private static void linksOfNoWeight() {
        Due.of("17: NOT: also its WEIGHT is 0");
        for (int w : new int[] {0, 1, -1}) {
            ColdGrid x = linked(1, 2);
            x.weigh(0, 1, w);
            Due.is("weight " + w, x.link(0, 1, 0), w == 0 ? ColdGrid.NOT : 0);
        }
        Twins.unchanged(Pasts::rich, "link(0, 2, 0)", x -> x.link(0, 2, 0), ColdGrid.NOT);
        Twins.unchanged(Pasts::rich, "link(2, 0, 1)", x -> x.link(2, 0, 1), ColdGrid.NOT);
    }

    private static void linksThatDoNotStand() {
        Due.of("17: NOT (CHAINS do not STAND)");
        Due.is("they stand", Pasts.failing(0).link(0, 1, 1), 1);
        for (int number = 1; number <= 6; number++) {
            int failing = number;
            Twins.unchanged(() -> Pasts.failing(failing), failing + " fails, link(0, 1, 1)", x -> x.link(0, 1, 1),
                ColdGrid.NOT);
        }
    }

    private static void noneBroken() {
        Due.of("18: BROKEN is one in which a CHAIN has unlike CELLS; HOLD h (0 ..)");
        ColdGrid x = Pasts.alike(3, -60);
        x.chain(0, 1);
        x.chain(1, 2);
        x.weigh(0, 2, 0);
        x.chain(2, 4);
        Due.is("chains of one cell cannot break", x.strong(), 0);
        x.chain(2, 4 | 8);
        Due.is("cell 3 bears neither a weight nor a link", x.strong(), 1);
        x.chain(1, 2 | 64);
        x.chain(2, 4);
        Due.is("cell 6 bears neither", x.strong(), 1);
        ColdGrid y = Pasts.of(2, -60, -60);
        y.weigh(0, 1, -60);
        y.chain(0, 3);
        y.chain(1, 4);
        // Best is -180; without cell 0 or cell 1 it is -120.
        Due.is("each cell bears one of them", y.strong(), 0);
    }

    private static void asLittle() {
        Due.of("18: the least h by which no BROKEN CELL STATE has as little ENERGY as the best that is not");
        ColdGrid x = Pasts.of(2, -10, -20);
        x.chain(0, 3);
        x.chain(1, 4);
        // Cell 0 bears -10, cell 1 the pair. Best is -20 from pair 10 on; 1 0 1 has -30 and the hold.
        int[][] due = {{-60, 0}, {-1, 0}, {0, 1}, {1, 2}, {9, 10}, {10, 11}, {11, 11}, {60, 11}};
        for (int[] d : due) {
            x.weigh(0, 1, d[0]);
            Due.is("pair " + d[0], x.strong(), d[1]);
        }
        Due.is("a chain without weights", laid(1, 3).strong(), 1);
        for (int w : new int[] {-60, -1, 1, 60}) {
            ColdGrid one = Pasts.of(1, w);
            one.chain(0, 3);
            Due.is("a chain of weight " + w, one.strong(), 1);
        }
        Twins.unchanged(Pasts::rich, "strong()", ColdGrid::strong, Pasts.rich().strong());
    }

    private static void eachTwoUnlike() {
        Due.of("18: h for each two neighbours of one CHAIN that are unlike");
        ColdGrid x = Pasts.of(2, -10, -20);
        x.weigh(0, 1, 30);
        x.chain(1, 4);
        x.chain(0, 3);
        Due.is("two in a row", x.strong(), 11);
        x.chain(0, 0b00011_00011);
        Due.is("a ring breaks at two", x.strong(), 6);
        x.chain(0, 0b00011_00001_00011);
        // Cells 0, 1, 5, 10, 11: cell 1 hangs by one neighbour.
        Due.is("an open bow breaks at one", x.strong(), 11);
        ColdGrid two = laid(2, 3, 12);
        Due.is("neighbours of two chains hold nothing", two.strong(), 1);
    }

    private static void ownAtTheLeastCell() {
        Due.of("18: of each LETTER its WEIGHT, if the least CELL of its CHAIN is 1; the CONSTANT");
        // The pair hangs at the least cell of letter 0, so that breaking wins nothing.
        ColdGrid x = Pasts.of(2, -10, -20);
        x.weigh(0, 1, 30);
        x.chain(0, 1 << 6 | 1 << 7);
        x.chain(1, 1 << 5);
        Due.is("own and link at one cell", x.strong(), 1);
        x.chain(1, 1 << 8);
        Due.is("own and link apart", x.strong(), 11);
        x.turn(3);
        x.turn(3);
        Due.is("turned and back", x.strong(), 11);
        ColdGrid y = Pasts.of(1, 60);
        y.turn(1);
        y.weigh(0, 0, 60);
        y.chain(0, 3);
        // Best is 60, the constant; 0 1 has as much.
        Due.is("with a constant", y.strong(), 1);
    }

    private static ColdGrid twoLaid(int pair, int first, int second) {
        ColdGrid x = Pasts.of(2, -10, -20);
        x.weigh(0, 1, pair);
        x.chain(0, first);
        x.chain(1, second);
        return x;
    }

    private static void bothCellsOfALink() {
        Due.of("18: of each PAIR its WEIGHT, if both CELLS of its LINK are 1");
        Due.is("one below the other", twoLaid(30, 1 << 0 | 1 << 1, 1 << 6).strong(), 11);
        Due.is("one above the other", twoLaid(30, 1 << 18 | 1 << 19, 1 << 14).strong(), 11);
        Due.is("from the right", twoLaid(30, 1 << 6 | 1 << 7, 1 << 8).strong(), 11);
        Due.is("from the left", twoLaid(30, 1 << 2 | 1 << 6 | 1 << 7, 1 << 5).strong(), 11);
        Due.is("0 and 5, both of which bear weights", twoLaid(30, 1, 1 << 5 | 1 << 10).strong(), 1);
        // Cell 7 bears neither: with it at 0 a state has the same energy, pair and all.
        Due.is("pair of 1, beside the least cell", twoLaid(1, 1 << 6 | 1 << 7, 1 << 5).strong(), 1);
        Due.is("pair of -1, beside the least cell", twoLaid(-1, 1 << 6 | 1 << 7, 1 << 5).strong(), 1);
        ColdGrid between = Pasts.of(3, -10, -20, 0);
        between.weigh(0, 1, 30);
        between.chain(0, 1 << 0 | 1 << 1);
        between.chain(1, 1 << 6);
        between.chain(2, 1 << 2);
        Due.is("a cell of a third between their numbers", between.strong(), 11);
        ColdGrid apart = Pasts.of(3, -20, 0, -10);
        apart.weigh(0, 2, 30);
        apart.chain(0, 1 << 6);
        apart.chain(1, 1 << 19);
        apart.chain(2, 1 << 1 | 1 << 2);
        Due.is("pairs without weight that are apart have none", apart.strong(), 1);
    }

    private static void strongOfEightLetters() {
        Due.of("18: STRONG, of 8 LETTERS");
        ColdGrid x = laid(8, 1, 2, 4, 8, 16, 32, 1 << 9, 1 << 7 | 1 << 8);
        x.weigh(6, 6, -20);
        x.weigh(7, 7, -10);
        x.weigh(6, 7, 30);
        // As of two: cell 7 bears the weight of letter 7, 8 and 9 are the link.
        Due.is("the last two", x.strong(), 11);
        for (int i = 0; i < 6; i++) {
            x.weigh(i, i, -60);
        }
        Due.is("the others add the same to all", x.strong(), 11);
    }

    private static void strongOfWhatIsNow() {
        Due.of("18: STRONG, by the WEIGHTS and CHAINS that are now");
        ColdGrid x = twoLaid(30, 3, 4);
        Due.is("own at 0, link of 1 and 2", x.strong(), 11);
        x.chain(0, 1);
        x.chain(1, 6);
        Due.is("own and link at 1, nothing at 2", x.strong(), 1);
        ColdGrid beside = laid(2, 3, 12);
        beside.weigh(0, 1, -30);
        Due.is("a link of 1 and 2", beside.strong(), 1);
        beside.weigh(0, 1, 0);
        Due.is("no link any more", beside.strong(), 1);
        ColdGrid below = laid(2, 3, 3 << 6);
        below.weigh(0, 1, -30);
        Due.is("a link of 1 and 6", below.strong(), 1);
        below.weigh(0, 1, 0);
        Due.is("no link any more", below.strong(), 1);
        ColdGrid moved = laid(1, 0x3fff);
        Due.is("the first 14 cells", moved.strong(), 1);
        moved.chain(0, 3 << 18);
        Due.is("the last two", moved.strong(), 1);
        moved.chain(0, 1 << 18);
        Due.is("one", moved.strong(), 0);
    }

    private static void strongOfFourteen() {
        Due.of("18: STRONG, of 14 CELLS");
        ColdGrid x = Pasts.of(2, -60, -60);
        x.weigh(0, 1, 60);
        x.chain(0, 0b00000_00000_11110_01111);
        x.chain(1, 0b00000_11111_00001_00000);
        // Cell 0 bears the one weight, 5 the other, and is the neighbour of both 0 and 6.
        Due.is("14 cells, the link at both least cells", x.strong(), 1);
        x.chain(0, 0b00000_00000_01111_01111);
        x.chain(1, 0b00000_01111_10000_10000);
        Due.is("13 cells, torn", x.strong(), ColdGrid.NOT);
        x.chain(1, 0b00000_11111_10000_00000);
        // Cell 9 bears the weight of 1 and hangs by 14 alone; the link is of 5 and 10, and 5 hangs by 0 and 6.
        Due.is("14 cells, the link apart from the least cell", x.strong(), 61);
        x.chain(1, 0b00001_11111_10000_00000);
        Due.is("15 cells", x.strong(), ColdGrid.NOT);
        ColdGrid y = Pasts.of(2, 0, -60);
        y.chain(0, 0x1fff);
        y.chain(1, 0x2000);
        // Only with the last of the 14 cells at 1 a broken state has -60.
        Due.is("13 cells and one", y.strong(), 1);
    }

    private static void strongOfSeveralBroken() {
        Due.of("18: no BROKEN CELL STATE, also of those in which several CHAINS are broken at once");
        // Letter 0 is cell 7, the others are squares around it, which break at two neighbours each. Unbroken best is
        // -120, with 1 and 2 alone. With 0 at 1 and all squares broken it is -240 and six holds, with any two of them
        // broken -180 and four.
        ColdGrid six = laid(4, 1 << 7, 0b00011_00011, 0b11000_11000, 0b00110_00110 << 10);
        int[] own = {-60, -60, -60, 60};
        int[] pairs = {0, 60, 60, -60};
        for (int i = 0; i < 4; i++) {
            six.weigh(i, i, own[i]);
            six.weigh(0, i, i == 0 ? own[0] : pairs[i]);
        }
        Due.is("three squares, best(0)", six.best(0), -120);
        Due.is("three squares at once", six.strong(), 21);
        // Letter 2 of cells 7, 8 and 12 breaks at one neighbour, 0 and 1 at two each. Unbroken best is -120, with 1
        // and 3 alone. With all three broken it is -240 and five holds, with 1 and 2 broken -180 and three.
        ColdGrid five = laid(4, 0b111_00011_00000_00000, 0b00011_00011, 1 << 7 | 1 << 8 | 1 << 12, 1 << 9);
        int[] owns = {60, -60, -60, -60};
        int[] withTwo = {-60, 60, 0, 60};
        for (int i = 0; i < 4; i++) {
            five.weigh(i, i, owns[i]);
            five.weigh(2, i, i == 2 ? owns[2] : withTwo[i]);
        }
        Due.is("three chains, best(0)", five.best(0), -120);
        Due.is("three chains at once", five.strong(), 25);
    }

    private static void strongWithoutBound() {
        Due.of("18: a HOLD h (0 ..), which has no greatest");
        // Letter 0 lies on cells 5 to 9. Left of cell 7 three pairs and its own weight ask for 1, right of it four
        // pairs, with letters that are 1 at best, for 0: unbroken it has -240 either way, broken -480 and the hold.
        ColdGrid x = laid(8, 0b11111_00000, 1 << 0, 1 << 1, 1 << 10, 1 << 3, 1 << 4, 1 << 13, 1 << 14);
        x.weigh(0, 0, -60);
        for (int i = 1; i < 8; i++) {
            x.weigh(i, i, i <= 3 ? 0 : -60);
            x.weigh(0, i, i <= 3 ? -60 : 60);
        }
        Due.is("best(0)", x.best(0), -240);
        Due.is("241", x.strong(), 241);
        int[] steps = {17, 19, 20, 17, 18, 19, 20, 18};
        int[] weights = {68, 76, 80, 85, 90, 95, 100, 108};
        for (int k = 0; k < steps.length; k++) {
            x.cut(steps[k]);
            Due.is("weight(0, 7)", x.weight(0, 7), weights[k]);
            Due.is("weights of " + weights[k], x.strong(), 4 * weights[k] + 1);
        }
    }

    private static void strongThatDoesNotStand() {
        Due.of("18: NOT");
        Due.is("they stand", Pasts.failing(0).strong(), 0);
        for (int number = 1; number <= 6; number++) {
            int failing = number;
            Twins.unchanged(() -> Pasts.failing(failing), failing + " fails, strong()", ColdGrid::strong, ColdGrid.NOT);
        }
    }

    private static void mostCells() {
        Due.of("19: each LETTER is what more CELLS of its CHAIN are");
        ColdGrid one = laid(1, 1 << 19);
        Due.is("one cell, 0", one.readBack(0), 0);
        Due.is("one cell, 1", one.readBack(1 << 19), 1);
        ColdGrid three = laid(1, 7);
        int[] due = {0, 0, 0, 1, 0, 1, 1, 1};
        for (int cells = 0; cells < 8; cells++) {
            Due.is("three cells, " + cells, three.readBack(cells), due[cells]);
        }
        ColdGrid most = laid(1, 0x3fff);
        Due.is("8 of 14, without the least", most.readBack(0x1fe), 1);
        Due.is("6 of 14, with the least", most.readBack(0x3f), 0);
        Due.is("14 of 14", most.readBack(0x3fff), 1);
        Due.is("none of 14", most.readBack(0), 0);
        ColdGrid eight = laid(8, 1, 2, 4, 8, 16, 32, 64, 128);
        for (int cells = 0; cells < 256; cells++) {
            Due.is("eight letters, " + cells, eight.readBack(cells), cells);
        }
    }

    private static void asManyCells() {
        Due.of("19: if as many are 0 as 1, what its least CELL is");
        ColdGrid two = laid(1, 1 << 9 | 1 << 14);
        Due.is("the least is 1", two.readBack(1 << 9), 1);
        Due.is("the least is 0", two.readBack(1 << 14), 0);
        ColdGrid four = laid(1, 0b00011_00011);
        Due.is("two of four, with the least", four.readBack(0b00010_00001), 1);
        Due.is("two of four, without the least", four.readBack(0b00001_00010), 0);
        ColdGrid most = laid(1, 0x3fff);
        Due.is("7 of 14, with the least", most.readBack(0x7f), 1);
        Due.is("7 of 14, without the least", most.readBack(0xfe), 0);
        ColdGrid both = laid(2, 3, 12);
        Due.is("each by its own", both.readBack(1 | 8), 1);
        Due.is("each by its own", both.readBack(2 | 4), 2);
    }

    private static void cellsOfNoChain() {
        Due.of("19: BAD: bits of CELLS that are of no CHAIN");
        int laidCells = 1 << 0 | 1 << 1 | 1 << 2 | 1 << 7 | 1 << 8;
        for (int bit = 0; bit < 32; bit++) {
            int cells = 1 << bit;
            if ((laidCells & cells) == 0) {
                Twins.unchanged(Pasts::rich, "bit " + bit, x -> x.readBack(cells), ColdGrid.BAD);
                Due.is("bit " + bit + " and all that are laid", Pasts.rich().readBack(laidCells | cells), ColdGrid.BAD);
            } else {
                Due.is("bit " + bit, Pasts.rich().readBack(cells) >= 0 ? 1 : 0, 1);
            }
        }
        Due.is("all that are laid", Pasts.rich().readBack(laidCells), 7);
        Due.is("none", Pasts.rich().readBack(0), 0);
        for (int cells : new int[] {-1, LEAST, MOST, ALL, ALL + 1}) {
            Twins.unchanged(Pasts::rich, "readBack(" + cells + ")", x -> x.readBack(cells), ColdGrid.BAD);
        }
        ColdGrid x = Pasts.rich();
        x.letters(3);
        Due.is("no chains any more", x.readBack(1), ColdGrid.BAD);
    }

    private static void readBackThatDoesNotStand() {
        Due.of("19: NOT");
        Due.is("they stand", Pasts.failing(0).readBack(1), 1);
        for (int number = 1; number <= 6; number++) {
            int failing = number;
            Twins.unchanged(() -> Pasts.failing(failing), failing + " fails, readBack(1)", x -> x.readBack(1),
                ColdGrid.NOT);
            Twins.unchanged(() -> Pasts.failing(failing), failing + " fails, readBack(0)", x -> x.readBack(0),
                ColdGrid.NOT);
        }
        Due.is("no chains, no cells", new ColdGrid().readBack(0), ColdGrid.NOT);
    }
}
