/** Riddles of yes-no letters, and their laying as chains of cells on a grid of 4 rows of 5. */
public final class ColdGrid {
    public static final int NONE = -1, BAD = -2, NOT = -3, FULL = -4;

    // Answers that may themselves be below 0 are refused with the least int, so that BAD stays an answer.
    private static final int LEAST_INT = -2147483648;
    private static final int FIRST_LETTERS = 4;
    private static final int MOST_LETTERS = 8;
    private static final int MOST_STATES = 256;
    private static final int MOST_WEIGHT = 60;
    private static final int MOST_PULL = 1000;
    private static final int MOST_STEP = 20;
    private static final int MOST_HEAT = 100;
    private static final int MOST_MOVES = 200;

    private final Weights weights = new Weights();
    private final Laws laws = new Laws();
    private final Grid grid = new Grid();
    private final CellEnergy cellEnergy = new CellEnergy();
    // Made once and filled anew by each call that goes through all states: what a run makes is counted.
    private final int[] row = new int[MOST_STATES];
    private final int[] otherRow = new int[MOST_STATES];

    // All parts begin as the document asks by their own fields.
    public ColdGrid() {
    }

    public int letters(int n) {
        if (!isWithin(n, 1, MOST_LETTERS)) {
            return BAD;
        }
        weights.startAnew(n);
        laws.forgetAll();
        grid.forgetChains();
        return 1;
    }

    public int weigh(int i, int j, int w) {
        if (!isLetter(i) || !isLetter(j) || !isWithin(w, -MOST_WEIGHT, MOST_WEIGHT)) {
            return LEAST_INT;
        }
        int before = weights.between(i, j);
        weights.setBetween(i, j, w);
        return before;
    }

    public int weight(int i, int j) {
        if (!isLetter(i) || !isLetter(j)) {
            return LEAST_INT;
        }
        return weights.between(i, j);
    }

    public int energy(int state) {
        if (!isSetOfLetters(state)) {
            return LEAST_INT;
        }
        return weights.energyOf(state);
    }

    public int law(int set, int k) {
        if (!isSetOfLetters(set) || set == 0 || !isWithin(k, 0, Integer.bitCount(set))) {
            return BAD;
        }
        return laws.add(set, k);
    }

    public int unlaw() {
        return laws.dropLast();
    }

    // ---- best states

    public int best(int p) {
        if (!isPull(p)) {
            return LEAST_INT;
        }
        fillWeighed(p);
        return leastOfRow();
    }

    public int many(int p) {
        if (!isPull(p)) {
            return BAD;
        }
        return listBest(p);
    }

    public int bestAt(int p, int k) {
        if (!isPull(p)) {
            return BAD;
        }
        int found = listBest(p);
        return isWithin(k, 0, found - 1) ? otherRow[k] : BAD;
    }

    public int pull() {
        weights.fillEnergies(row);
        int keeper = bestKeeper();
        if (keeper == NONE) {
            return NONE;
        }
        int least = 0;
        for (int state = 0; state < weights.states(); state++) {
            int missed = laws.missedBy(state);
            // Only a state that still weighs as little as the best keeper asks for more pull.
            if (missed > 0 && row[state] + least * missed <= row[keeper]) {
                least = (row[keeper] - row[state]) / missed + 1;
            }
        }
        return Math.min(least, MOST_PULL + 1);
    }

    public int fixed(int way) {
        if (!isWithin(way, 0, 1)) {
            return BAD;
        }
        int settled = 0;
        int ones = 0;
        boolean again = true;
        // Each going through but the last fixes a letter, and one that fixes none changes nothing.
        for (int round = 0; again && round < MOST_LETTERS; round++) {
            again = false;
            for (int i = 0; i < weights.size(); i++) {
                int value = isIn(settled, i) ? NONE : weights.valueToFix(i, settled, ones);
                if (value != NONE) {
                    settled |= 1 << i;
                    ones |= value << i;
                    again = true;
                }
            }
        }
        return way == 0 ? settled : ones;
    }

    public int floor() {
        return weights.lowerBound();
    }

    // ---- the grid

    public int kill(int cell, boolean dead) {
        if (!isWithin(cell, 0, Grid.CELLS - 1)) {
            return BAD;
        }
        boolean before = grid.isDead(cell);
        grid.setDead(cell, dead);
        return before ? 1 : 0;
    }

    public int chain(int letter, int cells) {
        if (!isLetter(letter) || !isWithin(cells, 0, Grid.ALL)) {
            return BAD;
        }
        grid.setChain(letter, cells);
        return Integer.bitCount(cells);
    }

    public int stands() {
        return grid.firstFailing(weights);
    }

    public int link(int i, int j, int way) {
        if (!isLetter(i) || !isLetter(j) || i == j || !isWithin(way, 0, 1)) {
            return BAD;
        }
        if (weights.between(i, j) == 0 || grid.firstFailing(weights) != 0) {
            return NOT;
        }
        int lesser = Math.min(i, j);
        int other = Math.max(i, j);
        int nearEnd = grid.linkFrom(lesser, other);
        return way == 0 ? nearEnd : grid.linkTo(nearEnd, other);
    }

    public int strong() {
        if (grid.firstFailing(weights) != 0) {
            return NOT;
        }
        weights.fillEnergies(row);
        cellEnergy.layOut(weights, grid);
        // An unbroken cell state has the energy of the state that it stands for, whatever the hold.
        return cellEnergy.leastHold(leastOfRow());
    }

    public int readBack(int cells) {
        if ((cells & ~grid.cellsOfChains()) != 0) {
            return BAD;
        }
        if (grid.firstFailing(weights) != 0) {
            return NOT;
        }
        int state = 0;
        for (int i = 0; i < weights.size(); i++) {
            state |= grid.mostOf(i, cells) << i;
        }
        return state;
    }

    // ---- turning, cutting, walking

    public int turn(int set) {
        if (!isSetOfLetters(set)) {
            return LEAST_INT;
        }
        if (!weights.turnBy(set)) {
            return NOT;
        }
        return weights.constant();
    }

    public int cut(int s) {
        if (!isWithin(s, 1, MOST_STEP)) {
            return BAD;
        }
        weights.fillEnergies(row);
        weights.cutTo(s);
        weights.fillEnergies(otherRow);
        int loss = 0;
        for (int state = 0; state < weights.states(); state++) {
            loss = Math.max(loss, Math.abs(otherRow[state] - row[state]));
        }
        return loss;
    }

    public int walk(int state, int seed, int heat, int moves, int way) {
        if (!isSetOfLetters(state) || !isWithin(heat, 0, MOST_HEAT)
                || !isWithin(moves, 1, MOST_MOVES) || !isWithin(way, 0, 1)) {
            return LEAST_INT;
        }
        int z = seed;
        int warmth = heat;
        int here = state;
        int energyHere = weights.energyOf(state);
        int least = energyHere;
        for (int move = 1; move <= moves; move++) {
            // Java's wrap-around is modulo 2^32; the mask makes it modulo 2^31, for seeds below 0, too.
            z = (z * 1103515245 + 12345) & 0x7fffffff;
            int letter = z / 65536 % weights.size();
            int change = weights.changeBy(letter, here);
            if (change <= z / 256 % (warmth + 1)) {
                here ^= 1 << letter;
                energyHere += change;
                least = Math.min(least, energyHere);
            }
            if (move % 10 == 0) {
                warmth = warmth * 9 / 10;
            }
        }
        return way == 0 ? here : least;
    }

    public int count(int what) {
        switch (what) {
            case 0:
                return weights.size();
            case 1:
                return weights.weightedPairs();
            case 2:
                return laws.size();
            case 3:
                return grid.deadCells();
            case 4:
                return grid.chainLengths();
            case 5:
                return weights.constant();
            default:
                return LEAST_INT;
        }
    }

    private boolean isLetter(int i) {
        return isWithin(i, 0, weights.size() - 1);
    }

    private boolean isSetOfLetters(int set) {
        return isWithin(set, 0, weights.states() - 1);
    }

    private static boolean isPull(int p) {
        return isWithin(p, 0, MOST_PULL);
    }

    private static boolean isWithin(int x, int least, int most) {
        return x >= least && x <= most;
    }

    private static boolean isIn(int set, int member) {
        return ((set >> member) & 1) != 0;
    }

    private void fillWeighed(int p) {
        weights.fillEnergies(row);
        for (int state = 0; state < weights.states(); state++) {
            row[state] += p * laws.missedBy(state);
        }
    }

    // Leaves the best states by p in the other row, as numbers rise, and tells how many they are.
    private int listBest(int p) {
        fillWeighed(p);
        int least = leastOfRow();
        int found = 0;
        for (int state = 0; state < weights.states(); state++) {
            if (row[state] == least) {
                otherRow[found] = state;
                found++;
            }
        }
        return found;
    }

    private int leastOfRow() {
        int least = row[0];
        for (int state = 1; state < weights.states(); state++) {
            least = Math.min(least, row[state]);
        }
        return least;
    }

    // The state of least energy in the row among those that keep all laws.
    private int bestKeeper() {
        int keeper = NONE;
        for (int state = 0; state < weights.states(); state++) {
            if (laws.missedBy(state) == 0 && (keeper == NONE || row[state] < row[keeper])) {
                keeper = state;
            }
        }
        return keeper;
    }

    /** Letters with their weights, those of pairs, and the constant. */
    private static final class Weights {
        // Symmetric, with a letter's own weight where i is j, so that a pair is found in either order.
        private final int[] table = new int[MOST_LETTERS * MOST_LETTERS];
        private final int[] turned = new int[MOST_LETTERS * MOST_LETTERS];
        private int n = FIRST_LETTERS;
        private int constant = 0;

        void startAnew(int letters) {
            n = letters;
            constant = 0;
            for (int at = 0; at < table.length; at++) {
                table[at] = 0;
            }
        }

        int size() {
            return n;
        }

        int states() {
            return 1 << n;
        }

        int constant() {
            return constant;
        }

        int between(int i, int j) {
            return table[place(i, j)];
        }

        void setBetween(int i, int j, int w) {
            table[place(i, j)] = w;
            table[place(j, i)] = w;
        }

        int weightedPairs() {
            int found = 0;
            for (int i = 0; i < n; i++) {
                for (int j = 0; j < i; j++) {
                    if (between(i, j) != 0) {
                        found++;
                    }
                }
            }
            return found;
        }

        int energyOf(int state) {
            int sum = constant;
            for (int i = 0; i < n; i++) {
                if (isIn(state, i)) {
                    // Only letters below i, so that each pair is told once.
                    sum += gainOf(i, state & ((1 << i) - 1));
                }
            }
            return sum;
        }

        void fillEnergies(int[] energies) {
            energies[0] = constant;
            for (int state = 1; state < states(); state++) {
                int rest = state & (state - 1);
                energies[state] = energies[rest] + gainOf(Integer.numberOfTrailingZeros(state), rest);
            }
        }

        int changeBy(int letter, int state) {
            int gain = gainOf(letter, state);
            return isIn(state, letter) ? -gain : gain;
        }

        int valueToFix(int i, int settled, int ones) {
            int own = gainOf(i, ones);
            int below = 0;
            int above = 0;
            for (int j = 0; j < n; j++) {
                if (j != i && !isIn(settled, j)) {
                    below += Math.min(between(i, j), 0);
                    above += Math.max(between(i, j), 0);
                }
            }
            if (own + below >= 0) {
                return 0;
            }
            return own + above <= 0 ? 1 : NONE;
        }

        int lowerBound() {
            int sum = constant;
            for (int i = 0; i < n; i++) {
                for (int j = 0; j <= i; j++) {
                    sum += Math.min(between(i, j), 0);
                }
            }
            return sum;
        }

        // False, and nothing is changed, if a weight would be beyond its bounds.
        boolean turnBy(int set) {
            for (int i = 0; i < n; i++) {
                for (int j = 0; j < n; j++) {
                    int w = turnedBetween(i, j, set);
                    if (!isWithin(w, -MOST_WEIGHT, MOST_WEIGHT)) {
                        return false;
                    }
                    turned[place(i, j)] = w;
                }
            }
            constant = energyOf(set);
            for (int i = 0; i < n; i++) {
                for (int j = 0; j < n; j++) {
                    table[place(i, j)] = turned[place(i, j)];
                }
            }
            return true;
        }

        void cutTo(int step) {
            for (int at = 0; at < table.length; at++) {
                table[at] = nearestMultiple(table[at], step);
            }
        }

        // What the energy gains when letter i becomes 1 beside those of the others that are 1.
        private int gainOf(int i, int others) {
            int sum = between(i, i);
            for (int j = 0; j < n; j++) {
                if (j != i && isIn(others, j)) {
                    sum += between(i, j);
                }
            }
            return sum;
        }

        private int turnedBetween(int i, int j, int set) {
            if (i == j) {
                int gain = gainOf(i, set);
                return isIn(set, i) ? -gain : gain;
            }
            return isIn(set, i) == isIn(set, j) ? between(i, j) : -between(i, j);
        }

        private static int nearestMultiple(int w, int step) {
            int far = Math.abs(w);
            int rest = far % step;
            int cutFar = rest * 2 > step ? far - rest + step : far - rest;
            return w < 0 ? -cutFar : cutFar;
        }

        private static int place(int i, int j) {
            return i * MOST_LETTERS + j;
        }
    }

    /** Laws in the order in which they were told. */
    private static final class Laws {
        private static final int MOST = 6;

        private final int[] sets = new int[MOST];
        private final int[] ones = new int[MOST];
        private int told = 0;

        int size() {
            return told;
        }

        int add(int set, int k) {
            if (told >= MOST) {
                return FULL;
            }
            sets[told] = set;
            ones[told] = k;
            told++;
            return told - 1;
        }

        int dropLast() {
            if (told == 0) {
                return NOT;
            }
            told--;
            return told;
        }

        void forgetAll() {
            told = 0;
        }

        int missedBy(int state) {
            int sum = 0;
            for (int number = 0; number < told; number++) {
                int far = Integer.bitCount(state & sets[number]) - ones[number];
                sum += far * far;
            }
            return sum;
        }
    }

    /** Dead cells and chains; sets of cells are told by bits. */
    private static final class Grid {
        static final int CELLS = 20;
        static final int ALL = (1 << CELLS) - 1;
        static final int WIDTH = 5;
        static final int MOST_LAID = 14;
        private static final int FIRST_COLUMN = 1 | (1 << 5) | (1 << 10) | (1 << 15);
        private static final int LAST_COLUMN = FIRST_COLUMN << 4;

        private final int[] chains = new int[MOST_LETTERS];
        private int dead = 0;

        boolean isDead(int cell) {
            return isIn(dead, cell);
        }

        void setDead(int cell, boolean isDead) {
            dead = isDead ? dead | (1 << cell) : dead & ~(1 << cell);
        }

        int deadCells() {
            return Integer.bitCount(dead);
        }

        void setChain(int letter, int cells) {
            chains[letter] = cells;
        }

        void forgetChains() {
            for (int i = 0; i < chains.length; i++) {
                chains[i] = 0;
            }
        }

        int cellsOfChains() {
            int cells = 0;
            for (int i = 0; i < chains.length; i++) {
                cells |= chains[i];
            }
            return cells;
        }

        // A cell of two chains is told twice.
        int chainLengths() {
            int sum = 0;
            for (int i = 0; i < chains.length; i++) {
                sum += Integer.bitCount(chains[i]);
            }
            return sum;
        }

        int firstFailing(Weights weights) {
            if (isAnyEmpty(weights.size())) {
                return 1;
            }
            if ((cellsOfChains() & dead) != 0) {
                return 2;
            }
            if (chainLengths() != Integer.bitCount(cellsOfChains())) {
                return 3;
            }
            if (isAnyTorn(weights.size())) {
                return 4;
            }
            if (isAnyPairApart(weights)) {
                return 5;
            }
            return chainLengths() > MOST_LAID ? 6 : 0;
        }

        int linkFrom(int lesser, int other) {
            return Integer.numberOfTrailingZeros(chains[lesser] & neighboursOf(chains[other]));
        }

        int linkTo(int nearEnd, int other) {
            return Integer.numberOfTrailingZeros(chains[other] & neighboursOf(1 << nearEnd));
        }

        int mostOf(int letter, int cells) {
            int ones = Integer.bitCount(chains[letter] & cells);
            int zeros = Integer.bitCount(chains[letter]) - ones;
            if (ones == zeros) {
                return isIn(cells, leastCellOf(letter)) ? 1 : 0;
            }
            return ones > zeros ? 1 : 0;
        }

        int leastCellOf(int letter) {
            return Integer.numberOfTrailingZeros(chains[letter]);
        }

        // The cells whose right neighbour is of the same chain.
        int boundToRight() {
            int cells = 0;
            for (int i = 0; i < chains.length; i++) {
                cells |= chains[i] & (chains[i] >> 1) & ~LAST_COLUMN;
            }
            return cells;
        }

        // The cells whose neighbour below is of the same chain.
        int boundToBelow() {
            int cells = 0;
            for (int i = 0; i < chains.length; i++) {
                cells |= chains[i] & (chains[i] >> WIDTH);
            }
            return cells;
        }

        private boolean isAnyEmpty(int letters) {
            for (int i = 0; i < letters; i++) {
                if (chains[i] == 0) {
                    return true;
                }
            }
            return false;
        }

        private boolean isAnyTorn(int letters) {
            for (int i = 0; i < letters; i++) {
                if (!hangsTogether(chains[i])) {
                    return true;
                }
            }
            return false;
        }

        private boolean isAnyPairApart(Weights weights) {
            for (int i = 0; i < weights.size(); i++) {
                for (int j = 0; j < i; j++) {
                    if (weights.between(i, j) != 0 && (chains[i] & neighboursOf(chains[j])) == 0) {
                        return true;
                    }
                }
            }
            return false;
        }

        private static boolean hangsTogether(int cells) {
            int reached = Integer.lowestOneBit(cells);
            // A going that reaches the farthest cell takes fewer steps than there are cells.
            for (int step = 0; step < CELLS; step++) {
                reached |= cells & neighboursOf(reached);
            }
            return reached == cells;
        }

        private static int neighboursOf(int cells) {
            int left = (cells & ~FIRST_COLUMN) >> 1;
            int right = (cells & ~LAST_COLUMN) << 1;
            int above = cells >> WIDTH;
            int below = (cells << WIDTH) & ALL;
            return left | right | above | below;
        }
    }

    /** What a cell state costs, cell by cell, of chains that stand. */
    private static final class CellEnergy {
        private final int[] own = new int[Grid.CELLS];
        // Chains that stand share no cell, so between two neighbours there is one link at most.
        private final int[] toRight = new int[Grid.CELLS];
        private final int[] toBelow = new int[Grid.CELLS];
        private final int[] laid = new int[Grid.MOST_LAID];
        private int laidCells = 0;
        private int constant = 0;
        private int boundToRight = 0;
        private int boundToBelow = 0;

        void layOut(Weights weights, Grid grid) {
            clear();
            constant = weights.constant();
            boundToRight = grid.boundToRight();
            boundToBelow = grid.boundToBelow();
            listCells(grid.cellsOfChains());
            for (int i = 0; i < weights.size(); i++) {
                addOwn(grid.leastCellOf(i), weights.between(i, i));
                for (int j = i + 1; j < weights.size(); j++) {
                    if (weights.between(i, j) != 0) {
                        int from = grid.linkFrom(i, j);
                        addLink(from, grid.linkTo(from, j), weights.between(i, j));
                    }
                }
            }
        }

        // The least hold by which every broken cell state has more energy than the best unbroken one.
        int leastHold(int bestUnbroken) {
            int hold = 0;
            int state = 0;
            int energyHere = constant;
            // Each next state differs in one cell, so that its energy need not be told from the beginning.
            for (int step = 1; step < (1 << laidCells); step++) {
                int cell = laid[Integer.numberOfTrailingZeros(step)];
                int gain = gainOf(cell, state);
                energyHere += isIn(state, cell) ? -gain : gain;
                state ^= 1 << cell;
                int unlike = unlikeNeighbours(state);
                if (unlike > 0 && energyHere + hold * unlike <= bestUnbroken) {
                    hold = (bestUnbroken - energyHere) / unlike + 1;
                }
            }
            return hold;
        }

        private void clear() {
            for (int cell = 0; cell < Grid.CELLS; cell++) {
                own[cell] = 0;
                toRight[cell] = 0;
                toBelow[cell] = 0;
            }
        }

        private void listCells(int cells) {
            laidCells = 0;
            for (int cell = 0; cell < Grid.CELLS; cell++) {
                if (isIn(cells, cell) && laidCells < laid.length) {
                    laid[laidCells] = cell;
                    laidCells++;
                }
            }
        }

        // Chains that stand have a least cell and their links; an index is looked at all the same.
        private void addOwn(int cell, int w) {
            if (isWithin(cell, 0, Grid.CELLS - 1)) {
                own[cell] = w;
            }
        }

        private void addLink(int a, int b, int w) {
            int first = Math.min(a, b);
            if (!isWithin(first, 0, Grid.CELLS - 1)) {
                return;
            }
            if (Math.max(a, b) == first + 1) {
                toRight[first] = w;
            } else {
                toBelow[first] = w;
            }
        }

        // What the energy without hold gains when the cell becomes 1 beside the others of the state.
        private int gainOf(int cell, int state) {
            int sum = own[cell];
            if (isIn(state, cell + 1)) {
                sum += toRight[cell];
            }
            if (isIn(state, cell + Grid.WIDTH)) {
                sum += toBelow[cell];
            }
            if (cell >= 1 && isIn(state, cell - 1)) {
                sum += toRight[cell - 1];
            }
            if (cell >= Grid.WIDTH && isIn(state, cell - Grid.WIDTH)) {
                sum += toBelow[cell - Grid.WIDTH];
            }
            return sum;
        }

        private int unlikeNeighbours(int state) {
            int beside = (state ^ (state >> 1)) & boundToRight;
            int below = (state ^ (state >> Grid.WIDTH)) & boundToBelow;
            return Integer.bitCount(beside) + Integer.bitCount(below);
        }
    }
}
