import java.util.function.Function;
import java.util.function.Supplier;

/** Every call with every choice of odd arguments, in several states: no call throws, and each answers as the model. */
final class AnyArgumentsTest {
    private static final int[] ODD = {Integer.MIN_VALUE, Integer.MIN_VALUE + 1, -61, -60, -1, 0, 1, 2, 3, 7, 8, 19, 20,
        21, 60, 61, 255, 256, 1000, 1001, 1048575, 1048576, Integer.MAX_VALUE};
    private static final int[] FEW = {Integer.MIN_VALUE, -1, 0, 1, 2, 7, 8, 60, 61, 100, 101, 200, 201,
        Integer.MAX_VALUE};

    private AnyArgumentsTest() {
    }

    public static void main(String[] args) {
        for (int past = 0; past < 4; past++) {
            int of = past;
            noArgument(() -> new Both(of));
            oneArgument(() -> new Both(of));
            twoArguments(() -> new Both(of));
            threeArguments(() -> new Both(of));
            walks(new Both(of), of);
        }
        Due.end("AnyArgumentsTest");
    }

    /** The program and the model with one past. */
    private static final class Both {
        final ColdGrid grid = new ColdGrid();
        final SlowModel model = new SlowModel();

        Both(int past) {
            if (past == 1) {
                letters(8);
                for (int i = 0; i < 8; i++) {
                    chain(i, 1 << i);
                    weigh(i, i, 60 - 17 * i);
                    law(255 >> i, 0);
                }
                weigh(0, 1, -60);
            }
            if (past == 2) {
                letters(1);
                weigh(0, 0, 60);
                grid.cut(17);
                model.cut(17);
                chain(0, 1 << 19);
            }
            if (past == 3) {
                chain(0, 1048575);
                chain(3, 3);
                grid.kill(7, true);
                model.kill(7, true);
                weigh(1, 2, 60);
                law(1, 1);
            }
        }

        private void letters(int n) {
            grid.letters(n);
            model.letters(n);
        }

        private void weigh(int i, int j, int w) {
            grid.weigh(i, j, w);
            model.weigh(i, j, w);
        }

        private void chain(int letter, int cells) {
            grid.chain(letter, cells);
            model.chain(letter, cells);
        }

        private void law(int set, int k) {
            grid.law(set, k);
            model.law(set, k);
        }
    }

    // A call may change what is held, so each has an object of its own.
    private static void ask(Supplier<Both> past, String what, Function<ColdGrid, Integer> call,
            Function<SlowModel, Integer> due) {
        Both both = past.get();
        Due.is(what, call.apply(both.grid), due.apply(both.model));
        for (int k = 0; k <= 5; k++) {
            Due.is(what + ", then count(" + k + ")", both.grid.count(k), both.model.count(k));
        }
        Due.is(what + ", then floor()", both.grid.floor(), both.model.floor());
    }

    private static void noArgument(Supplier<Both> past) {
        ask(past, "unlaw()", ColdGrid::unlaw, SlowModel::unlaw);
        ask(past, "pull()", ColdGrid::pull, SlowModel::pull);
        ask(past, "floor()", ColdGrid::floor, SlowModel::floor);
        ask(past, "stands()", ColdGrid::stands, SlowModel::stands);
        ask(past, "strong()", ColdGrid::strong, SlowModel::strong);
    }

    private static void oneArgument(Supplier<Both> past) {
        for (int a : ODD) {
            String by = "(" + a + ")";
            ask(past, "letters" + by, x -> x.letters(a), m -> m.letters(a));
            ask(past, "energy" + by, x -> x.energy(a), m -> m.energy(a));
            ask(past, "best" + by, x -> x.best(a), m -> m.best(a));
            ask(past, "many" + by, x -> x.many(a), m -> m.many(a));
            ask(past, "fixed" + by, x -> x.fixed(a), m -> m.fixed(a));
            ask(past, "kill to die" + by, x -> x.kill(a, true), m -> m.kill(a, true));
            ask(past, "kill to live" + by, x -> x.kill(a, false), m -> m.kill(a, false));
            ask(past, "readBack" + by, x -> x.readBack(a), m -> m.readBack(a));
            ask(past, "turn" + by, x -> x.turn(a), m -> m.turn(a));
            ask(past, "cut" + by, x -> x.cut(a), m -> m.cut(a));
            ask(past, "count" + by, x -> x.count(a), m -> m.count(a));
        }
    }

    private static void twoArguments(Supplier<Both> past) {
        for (int a : ODD) {
            for (int b : ODD) {
                String by = "(" + a + ", " + b + ")";
                ask(past, "weight" + by, x -> x.weight(a, b), m -> m.weight(a, b));
                ask(past, "law" + by, x -> x.law(a, b), m -> m.law(a, b));
                ask(past, "bestAt" + by, x -> x.bestAt(a, b), m -> m.bestAt(a, b));
                ask(past, "chain" + by, x -> x.chain(a, b), m -> m.chain(a, b));
            }
        }
    }

    private static void threeArguments(Supplier<Both> past) {
        for (int a : FEW) {
            for (int b : FEW) {
                for (int c : FEW) {
                    String by = "(" + a + ", " + b + ", " + c + ")";
                    ask(past, "weigh" + by, x -> x.weigh(a, b, c), m -> m.weigh(a, b, c));
                    ask(past, "link" + by, x -> x.link(a, b, c), m -> m.link(a, b, c));
                }
            }
        }
    }

    private static void walks(Both first, int past) {
        Both both = first;
        int calls = 0;
        for (int state : FEW) {
            for (int seed : FEW) {
                for (int heat : FEW) {
                    for (int moves : FEW) {
                        for (int way = -1; way <= 2; way++) {
                            // An object answers for 512 calls, those of its past among them.
                            if (++calls % 400 == 0) {
                                both = new Both(past);
                            }
                            Due.is("walk(" + state + ", " + seed + ", " + heat + ", " + moves + ", " + way + ")",
                                both.grid.walk(state, seed, heat, moves, way),
                                both.model.walk(state, seed, heat, moves, way));
                        }
                    }
                }
            }
        }
    }
}
