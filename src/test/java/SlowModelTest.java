import java.util.ArrayList;
import java.util.List;
import java.util.Random;

/** Runs of calls by seeds, each asked of the program and of the slow model. */
final class SlowModelTest {
    private static final int[] ODD = {Integer.MIN_VALUE, -1000, -61, -2, -1, 0, 1, 2, 6, 7, 8, 9, 19, 20, 21, 60, 61,
        100, 101, 200, 201, 255, 256, 1000, 1001, 1048575, 1048576, Integer.MAX_VALUE};

    private final Random random;
    private final String name;
    private final ColdGrid grid = new ColdGrid();
    private final SlowModel model = new SlowModel();
    private int calls = 0;

    private SlowModelTest(long seed) {
        // Seeds side by side begin alike, so they are spread out first.
        random = new Random(seed * 0x9E3779B97F4A7C15L);
        name = "run by seed " + seed + ", ";
    }

    public static void main(String[] args) {
        for (int seed = 0; seed < 600; seed++) {
            for (int kind = 0; kind < 3; kind++) {
                new SlowModelTest(seed).run(kind);
            }
        }
        Due.end("SlowModelTest");
    }

    private void due(String what, int got, int want) {
        calls++;
        Due.is(name + what, got, want);
    }

    private void run(int kind) {
        if (kind == 0) {
            runOfWeights();
        } else if (kind == 1) {
            runOfLayings();
        } else {
            runOfAnyCalls();
        }
        // What an object answers beyond its 512th call is free, so no run may depend on it.
        Due.is(name + "calls beyond 512", Math.max(calls - 512, 0), 0);
    }

    private int upTo(int most) {
        return random.nextInt(most + 1);
    }

    private int odd() {
        return random.nextInt(4) == 0 ? random.nextInt() : ODD[random.nextInt(ODD.length)];
    }

    private int aWeight() {
        int wide = random.nextInt(3) == 0 ? 60 : 6;
        return upTo(2 * wide) - wide;
    }

    private int aState() {
        return random.nextInt(1 << model.n);
    }

    private void letters(int n) {
        due("letters(" + n + ")", grid.letters(n), model.letters(n));
    }

    private void weigh(int i, int j, int w) {
        due("weigh(" + i + ", " + j + ", " + w + ")", grid.weigh(i, j, w), model.weigh(i, j, w));
    }

    private void energy(int state) {
        due("energy(" + state + ")", grid.energy(state), model.energy(state));
    }

    private void law(int set, int k) {
        due("law(" + set + ", " + k + ")", grid.law(set, k), model.law(set, k));
    }

    private void bestStates(int p, int k) {
        due("best(" + p + ")", grid.best(p), model.best(p));
        due("many(" + p + ")", grid.many(p), model.many(p));
        due("bestAt(" + p + ", " + k + ")", grid.bestAt(p, k), model.bestAt(p, k));
    }

    private void kill(int cell, boolean dead) {
        due("kill(" + cell + ", " + dead + ")", grid.kill(cell, dead), model.kill(cell, dead));
    }

    private void chain(int letter, int cells) {
        due("chain(" + letter + ", " + cells + ")", grid.chain(letter, cells), model.chain(letter, cells));
    }

    private void link(int i, int j, int way) {
        due("link(" + i + ", " + j + ", " + way + ")", grid.link(i, j, way), model.link(i, j, way));
    }

    private void readBack(int cells) {
        due("readBack(" + cells + ")", grid.readBack(cells), model.readBack(cells));
    }

    private void turn(int set) {
        due("turn(" + set + ")", grid.turn(set), model.turn(set));
    }

    private void cut(int s) {
        due("cut(" + s + ")", grid.cut(s), model.cut(s));
    }

    private void walk(int state, int seed, int heat, int moves, int way) {
        due("walk(" + state + ", " + seed + ", " + heat + ", " + moves + ", " + way + ")",
            grid.walk(state, seed, heat, moves, way), model.walk(state, seed, heat, moves, way));
    }

    private void weight(int i, int j) {
        due("weight(" + i + ", " + j + ")", grid.weight(i, j), model.weight(i, j));
    }

    // All is asked by many runs, a part of it by each.
    private void partOfWhatIsHeld() {
        for (int what = 0; what <= 5; what++) {
            due("count(" + what + ")", grid.count(what), model.count(what));
        }
        for (int k = 0; k < 10; k++) {
            weight(upTo(9) - 1, upTo(9) - 1);
            energy(aState());
        }
        for (int k = 0; k < 6; k++) {
            weight(upTo(model.n - 1), upTo(model.n - 1));
        }
        energy((1 << model.n) - 1);
        due("fixed(0)", grid.fixed(0), model.fixed(0));
        due("fixed(1)", grid.fixed(1), model.fixed(1));
        due("floor()", grid.floor(), model.floor());
        due("stands()", grid.stands(), model.stands());
    }

    private void weighAll(int sparse) {
        for (int i = 0; i < model.n; i++) {
            for (int j = i; j < model.n; j++) {
                if (random.nextInt(sparse) == 0) {
                    weigh(i, j, aWeight());
                }
            }
        }
    }

    private void runOfWeights() {
        letters(1 + upTo(7));
        weighAll(1 + upTo(2));
        partOfWhatIsHeld();
        tellLaws();
        for (int k = 0; k < 4; k++) {
            bestStates(upTo(12), upTo(3));
            bestStates(upTo(1000), upTo(1));
            due("pull()", grid.pull(), model.pull());
            due("unlaw()", grid.unlaw(), model.unlaw());
        }
        for (int k = 0; k < 6; k++) {
            walk(aState(), random.nextInt(), upTo(100), 1 + upTo(199), upTo(1));
        }
        for (int k = 0; k < 4; k++) {
            turn(aState());
            partOfWhatIsHeld();
        }
        for (int k = 0; k < 3; k++) {
            cut(1 + upTo(19));
            turn(aState());
            partOfWhatIsHeld();
        }
    }

    // Half of the runs have laws that a state chosen ahead keeps, so that there is a least pull.
    private void tellLaws() {
        boolean kept = random.nextBoolean();
        int keeper = aState();
        for (int k = upTo(7); k > 0; k--) {
            int set = aState();
            law(set, kept ? Integer.bitCount(set & keeper) : upTo(Integer.bitCount(set) + 1));
        }
    }

    private void runOfLayings() {
        for (int round = 0; round < 4; round++) {
            letters(1 + upTo(7));
            kill(upTo(19), random.nextInt(3) > 0);
            layChains();
            weighTouching();
            // What is asked of chains does not look at laws.
            law(aState(), upTo(2));
            if (random.nextInt(4) == 0) {
                turn(aState());
            }
            askLaying();
            spoilLaying();
            askLaying();
        }
    }

    // Chains that grow cell by cell over free cells that live, each beginning beside the one before.
    private void layChains() {
        List<Integer> free = new ArrayList<>();
        for (int c = 0; c < 20; c++) {
            if (!model.dead[c]) {
                free.add(c);
            }
        }
        int left = 14;
        List<Integer> all = new ArrayList<>();
        for (int i = 0; i < model.n; i++) {
            int size = 1 + upTo(Math.min(left - (model.n - i), 20 / model.n));
            int bits = 0;
            List<Integer> mine = all;
            for (int k = 0; k < size; k++) {
                Integer next = freeBeside(free, mine);
                if (next == null) {
                    break;
                }
                if (k == 0) {
                    mine = new ArrayList<>();
                }
                free.remove(next);
                mine.add(next);
                all.add(next);
                bits |= 1 << next;
                left--;
            }
            chain(i, bits);
        }
    }

    private Integer freeBeside(List<Integer> free, List<Integer> mine) {
        List<Integer> may = new ArrayList<>();
        for (Integer c : free) {
            boolean beside = mine.isEmpty();
            for (int d : mine) {
                beside |= SlowModel.beside(c, d);
            }
            if (beside) {
                may.add(c);
            }
        }
        return may.isEmpty() ? null : may.get(random.nextInt(may.size()));
    }

    private void weighTouching() {
        for (int i = 0; i < model.n; i++) {
            weigh(i, i, aWeight());
            for (int j = i + 1; j < model.n; j++) {
                if (model.touch(i, j) && random.nextInt(5) > 0) {
                    weigh(j, i, aWeight());
                }
            }
        }
    }

    private void askLaying() {
        due("stands()", grid.stands(), model.stands());
        due("strong()", grid.strong(), model.strong());
        for (int k = 0; k < 10; k++) {
            int i = upTo(model.n - 1);
            int j = upTo(model.n - 1);
            link(i, j, 0);
            link(i, j, 1);
        }
        link(upTo(9) - 1, upTo(9) - 1, upTo(3) - 1);
        int union = 0;
        for (int i = 0; i < model.n; i++) {
            for (int c : model.chains.get(i)) {
                union |= 1 << c;
            }
        }
        for (int k = 0; k < 8; k++) {
            readBack(random.nextInt() & union);
        }
        readBack(1 << upTo(31));
        due("count(4)", grid.count(4), model.count(4));
    }

    private void spoilLaying() {
        switch (upTo(3)) {
            case 0:
                kill(upTo(19), true);
                break;
            case 1:
                chain(upTo(model.n - 1), random.nextInt(1 << 20) & random.nextInt(1 << 20));
                break;
            case 2:
                weigh(upTo(model.n - 1), upTo(model.n - 1), aWeight());
                break;
            default:
                cut(1 + upTo(19));
                break;
        }
    }

    private void runOfAnyCalls() {
        for (int call = 0; call < 200; call++) {
            anyCall(upTo(17));
        }
        partOfWhatIsHeld();
    }

    private void anyCall(int which) {
        switch (which) {
            case 0:
                letters(random.nextInt(8) == 0 ? odd() : model.n);
                break;
            case 1:
            case 2:
            case 3:
                weigh(upTo(9) - 1, upTo(9) - 1, random.nextInt(8) == 0 ? odd() : aWeight());
                break;
            case 4:
                energy(odd());
                break;
            default:
                anyOtherCall(which);
                break;
        }
    }

    private void anyOtherCall(int which) {
        int a = odd();
        int b = odd();
        switch (which) {
            case 5:
                law(random.nextBoolean() ? a : aState(), upTo(4) - 1);
                break;
            case 6:
                due("unlaw()", grid.unlaw(), model.unlaw());
                break;
            case 7:
                bestStates(a, b);
                break;
            case 8:
                bestStates(upTo(30), upTo(4) - 1);
                break;
            case 9:
                due("fixed(" + a + ")", grid.fixed(a), model.fixed(a));
                break;
            case 10:
                kill(a, random.nextBoolean());
                break;
            case 11:
                chain(upTo(9) - 1, random.nextBoolean() ? a : 1 << upTo(20));
                break;
            case 12:
                link(upTo(9) - 1, upTo(9) - 1, upTo(3) - 1);
                break;
            case 13:
                readBack(a);
                break;
            case 14:
                turn(random.nextBoolean() ? a : aState());
                break;
            case 15:
                cut(a);
                break;
            case 16:
                walk(random.nextInt(3) == 0 ? a : aState(), odd(), upTo(104) - 2, upTo(204) - 1, upTo(3) - 1);
                break;
            default:
                weight(a, b);
                break;
        }
    }
}
