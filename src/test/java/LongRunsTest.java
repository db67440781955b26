import java.util.ArrayList;
import java.util.List;
import java.util.function.Supplier;
import java.util.function.ToIntFunction;

/** "An object is used for at most 512 calls": up to the last of them answers are due, however far numbers grow. */
final class LongRunsTest {
    private static final int CALLS = 512;

    private LongRunsTest() {
    }

    public static void main(String[] args) {
        theLastCall();
        eachCallToTheLast();
        lawsThatComeAndGo();
        lettersAgainAndAgain();
        constantThatGrows();
        constantThatFalls();
        weightsThatGrowByCutting();
        dearCalls();
        Due.end("LongRunsTest");
    }

    private static void theLastCall() {
        Due.of("at most 512 calls: the 512th answers as the first");
        ColdGrid x = new ColdGrid();
        for (int call = 1; call < CALLS; call++) {
            Due.is("call " + call, x.weigh(0, 3, call % 61), (call - 1) % 61);
        }
        Due.is("call 512", x.weight(3, 0), (CALLS - 1) % 61);
        ColdGrid refused = new ColdGrid();
        for (int call = 1; call < CALLS; call++) {
            Due.is("refused call " + call, refused.chain(4, 1), ColdGrid.BAD);
        }
        Due.is("the 512th", refused.chain(3, 1), 1);
        ColdGrid cells = new ColdGrid();
        for (int call = 1; call <= CALLS; call++) {
            Due.is("kill, call " + call, cells.kill(19, call % 2 == 1), (call - 1) % 2);
        }
    }

    private static List<ToIntFunction<ColdGrid>> callsToRepeat() {
        List<ToIntFunction<ColdGrid>> calls = new ArrayList<>();
        calls.add(x -> x.letters(3));
        calls.add(x -> x.weigh(0, 0, -10));
        calls.add(x -> x.weight(0, 1));
        calls.add(x -> x.energy(7));
        calls.add(x -> x.law(7, 4));
        calls.add(x -> x.best(9));
        calls.add(x -> x.many(9));
        calls.add(x -> x.bestAt(9, 0));
        calls.add(ColdGrid::pull);
        calls.add(x -> x.fixed(0));
        calls.add(ColdGrid::floor);
        calls.add(x -> x.kill(4, true));
        calls.add(x -> x.chain(0, 1 << 0 | 1 << 1));
        calls.add(ColdGrid::stands);
        calls.add(x -> x.link(0, 1, 0));
        calls.add(ColdGrid::strong);
        calls.add(x -> x.readBack(7));
        calls.add(x -> x.turn(0));
        calls.add(x -> x.cut(1));
        calls.add(x -> x.walk(0, 5, 100, 200, 0));
        calls.add(x -> x.walk(0, 5, 100, 200, 1));
        for (int what = 0; what <= 5; what++) {
            int asked = what;
            calls.add(x -> x.count(asked));
        }
        return calls;
    }

    private static void eachCallToTheLast() {
        Due.of("at most 512 calls: each call answers alike up to the 512th");
        List<ToIntFunction<ColdGrid>> calls = callsToRepeat();
        for (int k = 0; k < calls.size(); k++) {
            // Pasts.rich() makes 14 calls itself.
            alikeToTheLast("number " + k + " of a new object", calls.get(k), ColdGrid::new, 0);
            alikeToTheLast("number " + k, calls.get(k), Pasts::rich, 14);
        }
        ColdGrid laws = new ColdGrid();
        for (int call = 1; call < CALLS; call += 2) {
            Due.is("law(1, 1), call " + call, laws.law(1, 1), 0);
            Due.is("unlaw(), call " + (call + 1), laws.unlaw(), 0);
        }
    }

    // The first may still change something, so that each later one answers as the second does.
    private static void alikeToTheLast(String what, ToIntFunction<ColdGrid> asked, Supplier<ColdGrid> past, int made) {
        ColdGrid twin = past.get();
        asked.applyAsInt(twin);
        int due = asked.applyAsInt(twin);
        ColdGrid again = past.get();
        asked.applyAsInt(again);
        ColdGrid last = past.get();
        asked.applyAsInt(last);
        for (int call = made + 2; call <= CALLS; call++) {
            Due.is(what + ", call " + call, asked.applyAsInt(again), due);
            if (call < CALLS) {
                last.floor();
            }
        }
        Due.is(what + ", call 512, after others", asked.applyAsInt(last), due);
    }

    private static void lawsThatComeAndGo() {
        Due.of("at most 512 calls: laws that come and go");
        ColdGrid x = new ColdGrid();
        for (int round = 0; round < 36; round++) {
            for (int number = 0; number < 6; number++) {
                Due.is("law", x.law(15, number % 5), number);
            }
            Due.is("a seventh", x.law(15, 0), ColdGrid.FULL);
            for (int left = 5; left >= 0; left--) {
                Due.is("unlaw()", x.unlaw(), left);
            }
            Due.is("one too many", x.unlaw(), ColdGrid.NOT);
        }
        Due.is("count(2)", x.count(2), 0);
    }

    private static void lettersAgainAndAgain() {
        Due.of("at most 512 calls: letters again and again");
        ColdGrid x = new ColdGrid();
        for (int round = 0; round < 102; round++) {
            int n = round % 8 + 1;
            Due.is("letters(" + n + ")", x.letters(n), 1);
            Due.is("weigh the last", x.weigh(n - 1, n - 1, 60), 0);
            Due.is("energy of all", x.energy((1 << n) - 1), 60);
            Due.is("turn by all", x.turn((1 << n) - 1), 60);
            Due.is("law", x.law(1, 1), 0);
        }
    }

    private static void constantThatGrows() {
        Due.of("at most 512 calls: a constant that grows");
        ColdGrid x = Pasts.of(8);
        for (int round = 1; round <= 55; round++) {
            for (int i = 0; i < 8; i++) {
                x.weigh(i, i, 60);
            }
            Due.is("turn(255)", x.turn(255), 480 * round);
        }
        Due.is("energy(0)", x.energy(0), 26400);
        Due.is("best(1000)", x.best(1000), 25920);
        Due.is("floor()", x.floor(), 25920);
        Due.is("walk", x.walk(0, 1, 0, 200, 1), 25920);
    }

    private static void constantThatFalls() {
        Due.of("at most 512 calls: a constant that falls");
        ColdGrid x = Pasts.of(8);
        for (int round = 1; round <= 55; round++) {
            for (int i = 0; i < 8; i++) {
                x.weigh(i, i, -60);
            }
            Due.is("turn(255)", x.turn(255), -480 * round);
        }
        x.law(255, 8);
        Due.is("best(0)", x.best(0), -26400);
        Due.is("best(1000)", x.best(1000), -25920);
        Due.is("pull()", x.pull(), 61);
    }

    // Each time by the step that leads farthest from 0.
    private static void weightsThatGrowByCutting() {
        Due.of("at most 512 calls: weights that cutting puts ever farther beyond 60");
        ColdGrid x = Pasts.alike(8, 60);
        int w = 60;
        for (int call = 0; call < 450; call++) {
            int step = 1;
            int next = w;
            for (int s = 2; s <= 20; s++) {
                int up = (w / s + 1) * s;
                if (up - w < w - w / s * s && up > next) {
                    step = s;
                    next = up;
                }
            }
            Due.is("cut(" + step + ") of " + w, x.cut(step), 36 * (next - w));
            w = next;
        }
        Due.is("far beyond", w > 1000 ? 1 : 0, 1);
        Due.is("energy(255)", x.energy(255), 36 * w);
        Due.is("weight(0, 7)", x.weight(0, 7), w);
        Due.is("turn(0)", x.turn(0), ColdGrid.NOT);
        Due.is("weigh answers it", x.weigh(0, 7, 0), w);
        x.law(255, 8);
        Due.is("pull() of so much", x.pull(), 1001);
    }

    private static void dearCalls() {
        Due.of("at most 512 calls: the dearest of them, each time");
        ColdGrid x = Pasts.of(2, -60, -60);
        x.weigh(0, 1, 60);
        x.chain(0, 0b00000_00000_01111_01111);
        x.chain(1, 0b00000_11111_10000_00000);
        for (int call = 0; call < 500; call++) {
            Due.is("strong()", x.strong(), 61);
        }
        ColdGrid laws = Pasts.fullOfLaws();
        int due = laws.pull();
        for (int call = 0; call < 490; call++) {
            Due.is("pull()", laws.pull(), due);
        }
    }
}
