import java.math.BigInteger;
import java.util.ArrayList;
import java.util.List;
import java.util.TreeSet;

/** The document's terms said over again, as slowly and plainly as they can be, with no code of the program's. */
final class SlowModel {
    static final int LEAST = Integer.MIN_VALUE;
    int n = 4;
    long constant = 0;
    int[] own = new int[8];
    int[][] pair = new int[8][8];
    List<int[]> laws = new ArrayList<>();
    boolean[] dead = new boolean[20];
    List<TreeSet<Integer>> chains = new ArrayList<>();

    SlowModel() {
        clearChains();
    }

    private void clearChains() {
        chains.clear();
        for (int i = 0; i < 8; i++) {
            chains.add(new TreeSet<>());
        }
    }

    private boolean badLetter(int i) {
        return i < 0 || i >= n;
    }

    private boolean badState(int s) {
        return s < 0 || s >= Math.pow(2, n);
    }

    private static boolean one(long state, int i) {
        return state / (1L << i) % 2 == 1;
    }

    private int w(int i, int j) {
        return i == j ? own[i] : pair[Math.min(i, j)][Math.max(i, j)];
    }

    private void set(int i, int j, int w) {
        if (i == j) {
            own[i] = w;
        } else {
            pair[Math.min(i, j)][Math.max(i, j)] = w;
        }
    }

    int letters(int k) {
        if (k < 1 || k > 8) {
            return -2;
        }
        n = k;
        constant = 0;
        own = new int[8];
        pair = new int[8][8];
        laws.clear();
        clearChains();
        return 1;
    }

    int weigh(int i, int j, int v) {
        if (badLetter(i) || badLetter(j) || v < -60 || v > 60) {
            return LEAST;
        }
        int was = w(i, j);
        set(i, j, v);
        return was;
    }

    int weight(int i, int j) {
        return badLetter(i) || badLetter(j) ? LEAST : w(i, j);
    }

    private long e(int state) {
        long sum = constant;
        for (int i = 0; i < n; i++) {
            if (one(state, i)) {
                sum += own[i];
            }
            for (int j = i + 1; j < n; j++) {
                if (one(state, i) && one(state, j)) {
                    sum += pair[i][j];
                }
            }
        }
        return sum;
    }

    int energy(int state) {
        return badState(state) ? LEAST : (int) e(state);
    }

    private int size(int set) {
        int c = 0;
        for (int i = 0; i < n; i++) {
            if (one(set, i)) {
                c++;
            }
        }
        return c;
    }

    int law(int set, int k) {
        if (badState(set) || set == 0 || k < 0 || k > size(set)) {
            return -2;
        }
        if (laws.size() == 6) {
            return -4;
        }
        laws.add(new int[] {set, k});
        return laws.size() - 1;
    }

    int unlaw() {
        if (laws.isEmpty()) {
            return -3;
        }
        laws.remove(laws.size() - 1);
        return laws.size();
    }

    private boolean keeps(int state) {
        for (int[] law : laws) {
            int ones = 0;
            for (int i = 0; i < n; i++) {
                if (one(law[0], i) && one(state, i)) {
                    ones++;
                }
            }
            if (ones != law[1]) {
                return false;
            }
        }
        return true;
    }

    private long weighed(int state, int p) {
        long sum = e(state);
        for (int[] law : laws) {
            int miss = -law[1];
            for (int i = 0; i < n; i++) {
                if (one(law[0], i) && one(state, i)) {
                    miss++;
                }
            }
            sum += (long) p * miss * miss;
        }
        return sum;
    }

    private List<Integer> bestStates(int p) {
        long[] all = new long[1 << n];
        long least = Long.MAX_VALUE;
        for (int s = 0; s < 1 << n; s++) {
            all[s] = weighed(s, p);
            least = Math.min(least, all[s]);
        }
        List<Integer> found = new ArrayList<>();
        for (int s = 0; s < 1 << n; s++) {
            if (all[s] == least) {
                found.add(s);
            }
        }
        return found;
    }

    int best(int p) {
        return p < 0 || p > 1000 ? LEAST : (int) weighed(bestStates(p).get(0), p);
    }

    int many(int p) {
        return p < 0 || p > 1000 ? -2 : bestStates(p).size();
    }

    int bestAt(int p, int k) {
        if (p < 0 || p > 1000) {
            return -2;
        }
        List<Integer> found = bestStates(p);
        return k < 0 || k >= found.size() ? -2 : found.get(k);
    }

    int pull() {
        boolean some = false;
        for (int s = 0; s < 1 << n; s++) {
            some |= keeps(s);
        }
        if (!some) {
            return -1;
        }
        for (int p = 0; p <= 1000; p++) {
            boolean all = true;
            for (int s : bestStates(p)) {
                all &= keeps(s);
            }
            if (all) {
                return p;
            }
        }
        return 1001;
    }

    int fixed(int way) {
        if (way != 0 && way != 1) {
            return -2;
        }
        Integer[] value = new Integer[n];
        boolean some = true;
        while (some) {
            some = false;
            for (int i = 0; i < n; i++) {
                if (value[i] != null) {
                    continue;
                }
                int mine = own[i];
                int negative = 0;
                int positive = 0;
                for (int j = 0; j < n; j++) {
                    if (j == i) {
                        continue;
                    }
                    if (value[j] == null) {
                        if (w(i, j) < 0) {
                            negative += w(i, j);
                        } else {
                            positive += w(i, j);
                        }
                    } else if (value[j] == 1) {
                        mine += w(i, j);
                    }
                }
                if (mine + negative >= 0) {
                    value[i] = 0;
                    some = true;
                } else if (mine + positive <= 0) {
                    value[i] = 1;
                    some = true;
                }
            }
        }
        int bits = 0;
        for (int i = 0; i < n; i++) {
            if (value[i] != null && (way == 0 || value[i] == 1)) {
                bits += 1 << i;
            }
        }
        return bits;
    }

    int floor() {
        long sum = constant;
        for (int i = 0; i < n; i++) {
            for (int j = i; j < n; j++) {
                if (w(i, j) < 0) {
                    sum += w(i, j);
                }
            }
        }
        return (int) sum;
    }

    int kill(int cell, boolean isDead) {
        if (cell < 0 || cell > 19) {
            return -2;
        }
        int was = dead[cell] ? 1 : 0;
        dead[cell] = isDead;
        return was;
    }

    int chain(int letter, int cells) {
        if (badLetter(letter) || cells < 0 || cells >= 1048576) {
            return -2;
        }
        chains.get(letter).clear();
        for (int c = 0; c < 20; c++) {
            if (one(cells, c)) {
                chains.get(letter).add(c);
            }
        }
        return chains.get(letter).size();
    }

    static boolean beside(int a, int b) {
        return Math.abs(a / 5 - b / 5) + Math.abs(a % 5 - b % 5) == 1;
    }

    private boolean together(TreeSet<Integer> chain) {
        TreeSet<Integer> seen = new TreeSet<>();
        List<Integer> queue = new ArrayList<>();
        queue.add(chain.first());
        seen.add(chain.first());
        while (!queue.isEmpty()) {
            int c = queue.remove(0);
            for (int d : chain) {
                if (beside(c, d) && seen.add(d)) {
                    queue.add(d);
                }
            }
        }
        return seen.size() == chain.size();
    }

    private int[] linkOf(int i, int j) {
        for (int a : chains.get(Math.min(i, j))) {
            for (int b : chains.get(Math.max(i, j))) {
                if (beside(a, b)) {
                    return new int[] {a, b};
                }
            }
        }
        return null;
    }

    boolean touch(int i, int j) {
        return linkOf(i, j) != null;
    }

    int stands() {
        int cells = 0;
        TreeSet<Integer> union = new TreeSet<>();
        boolean touchesDead = false;
        for (int i = 0; i < n; i++) {
            if (chains.get(i).isEmpty()) {
                return 1;
            }
            for (int c : chains.get(i)) {
                touchesDead |= dead[c];
                union.add(c);
                cells++;
            }
        }
        if (touchesDead) {
            return 2;
        }
        if (union.size() != cells) {
            return 3;
        }
        for (int i = 0; i < n; i++) {
            if (!together(chains.get(i))) {
                return 4;
            }
        }
        for (int i = 0; i < n; i++) {
            for (int j = i + 1; j < n; j++) {
                if (pair[i][j] != 0 && !touch(i, j)) {
                    return 5;
                }
            }
        }
        return cells > 14 ? 6 : 0;
    }

    int link(int i, int j, int way) {
        if (badLetter(i) || badLetter(j) || i == j || way < 0 || way > 1) {
            return -2;
        }
        if (stands() != 0 || w(i, j) == 0) {
            return -3;
        }
        return linkOf(i, j)[way];
    }

    int strong() {
        if (stands() != 0) {
            return -3;
        }
        List<Integer> cells = new ArrayList<>();
        List<Integer> letterOf = new ArrayList<>();
        for (int i = 0; i < n; i++) {
            for (int c : chains.get(i)) {
                cells.add(c);
                letterOf.add(i);
            }
        }
        int[][][] links = new int[n][n][];
        for (int i = 0; i < n; i++) {
            for (int j = i + 1; j < n; j++) {
                if (pair[i][j] != 0) {
                    links[i][j] = linkOf(i, j);
                }
            }
        }
        List<int[]> broken = new ArrayList<>();
        long best = Long.MAX_VALUE;
        for (int bits = 0; bits < 1 << cells.size(); bits++) {
            int[] value = new int[20];
            for (int k = 0; k < cells.size(); k++) {
                value[cells.get(k)] = one(bits, k) ? 1 : 0;
            }
            int unlike = 0;
            for (int k = 0; k < cells.size(); k++) {
                for (int m = k + 1; m < cells.size(); m++) {
                    if (letterOf.get(k).equals(letterOf.get(m)) && beside(cells.get(k), cells.get(m))
                            && value[cells.get(k)] != value[cells.get(m)]) {
                        unlike++;
                    }
                }
            }
            long sum = constant;
            boolean isBroken = false;
            for (int i = 0; i < n; i++) {
                int ones = 0;
                for (int c : chains.get(i)) {
                    ones += value[c];
                }
                isBroken |= ones != 0 && ones != chains.get(i).size();
                sum += own[i] * value[chains.get(i).first()];
                for (int j = i + 1; j < n; j++) {
                    if (links[i][j] != null) {
                        sum += pair[i][j] * value[links[i][j][0]] * value[links[i][j][1]];
                    }
                }
            }
            if (isBroken) {
                broken.add(new int[] {(int) sum, unlike});
            } else {
                best = Math.min(best, sum);
            }
        }
        for (int h = 0; ; h++) {
            boolean holds = true;
            for (int[] b : broken) {
                holds &= b[0] + (long) h * b[1] > best;
            }
            if (holds) {
                return h;
            }
        }
    }

    int readBack(int cells) {
        TreeSet<Integer> union = new TreeSet<>();
        for (int i = 0; i < n; i++) {
            union.addAll(chains.get(i));
        }
        for (int c = 0; c < 32; c++) {
            if ((cells >>> c) % 2 != 0 && !union.contains(c)) {
                return -2;
            }
        }
        if (stands() != 0) {
            return -3;
        }
        int state = 0;
        for (int i = 0; i < n; i++) {
            int balance = 0;
            for (int c : chains.get(i)) {
                balance += one(cells, c) ? 1 : -1;
            }
            if (balance > 0 || balance == 0 && one(cells, chains.get(i).first())) {
                state += 1 << i;
            }
        }
        return state;
    }

    // By what the turned energies of no letter, one and two letters must be; weights follow from these.
    int turn(int set) {
        if (badState(set)) {
            return LEAST;
        }
        long none = e(set);
        int[] newOwn = new int[8];
        int[][] newPair = new int[8][8];
        boolean beyond = false;
        for (int i = 0; i < n; i++) {
            newOwn[i] = (int) (e(set ^ 1 << i) - none);
            beyond |= Math.abs(newOwn[i]) > 60;
        }
        for (int i = 0; i < n; i++) {
            for (int j = i + 1; j < n; j++) {
                newPair[i][j] = (int) (e(set ^ 1 << i ^ 1 << j) - none) - newOwn[i] - newOwn[j];
                beyond |= Math.abs(newPair[i][j]) > 60;
            }
        }
        if (beyond) {
            return -3;
        }
        constant = none;
        own = newOwn;
        pair = newPair;
        return (int) constant;
    }

    int cut(int s) {
        if (s < 1 || s > 20) {
            return -2;
        }
        long[] before = new long[1 << n];
        for (int state = 0; state < 1 << n; state++) {
            before[state] = e(state);
        }
        for (int i = 0; i < n; i++) {
            for (int j = i; j < n; j++) {
                set(i, j, nearest(w(i, j), s));
            }
        }
        long loss = 0;
        for (int state = 0; state < 1 << n; state++) {
            loss = Math.max(loss, Math.abs(e(state) - before[state]));
        }
        return (int) loss;
    }

    private static int nearest(int w, int s) {
        int found = 0;
        // Multiples outward from 0, so that of two as near the one nearer to 0 is kept.
        for (int k = 0; k <= Math.abs(w) + s; k++) {
            if (Math.abs(w - k * s) < Math.abs(w - found)) {
                found = k * s;
            }
            if (Math.abs(w + k * s) < Math.abs(w - found)) {
                found = -k * s;
            }
        }
        return found;
    }

    int walk(int state, int seed, int heat, int moves, int way) {
        if (badState(state) || heat < 0 || heat > 100 || moves < 1 || moves > 200 || way < 0 || way > 1) {
            return LEAST;
        }
        BigInteger z = BigInteger.valueOf(seed);
        int here = state;
        long least = e(here);
        int t = heat;
        for (int m = 1; m <= moves; m++) {
            z = z.multiply(BigInteger.valueOf(1103515245)).add(BigInteger.valueOf(12345)).mod(BigInteger.TWO.pow(31));
            int letter = z.divide(BigInteger.valueOf(65536)).mod(BigInteger.valueOf(n)).intValue();
            int may = z.divide(BigInteger.valueOf(256)).mod(BigInteger.valueOf(t + 1)).intValue();
            int next = one(here, letter) ? here - (1 << letter) : here + (1 << letter);
            long more = e(next) - e(here);
            if (more <= 0 || more <= may) {
                here = next;
            }
            least = Math.min(least, e(here));
            if (m % 10 == 0) {
                t = t * 9 / 10;
            }
        }
        return way == 0 ? here : (int) least;
    }

    int count(int what) {
        int sum = 0;
        switch (what) {
            case 0:
                return n;
            case 1:
                for (int i = 0; i < n; i++) {
                    for (int j = i + 1; j < n; j++) {
                        sum += pair[i][j] != 0 ? 1 : 0;
                    }
                }
                return sum;
            case 2:
                return laws.size();
            case 3:
                for (boolean d : dead) {
                    sum += d ? 1 : 0;
                }
                return sum;
            case 4:
                for (TreeSet<Integer> chain : chains) {
                    sum += chain.size();
                }
                return sum;
            case 5:
                return (int) constant;
            default:
                return LEAST;
        }
    }
}
