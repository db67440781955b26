import java.util.ArrayList;
import java.util.List;
import java.util.function.Supplier;
import java.util.function.ToIntFunction;

/** What a call does not name stays as it is: in its own object, and in all others. */
final class LeftAloneTest {
    private static final List<Supplier<ColdGrid>> PASTS = pasts();

    private LeftAloneTest() {
    }

    public static void main(String[] args) {
        askingChangesNothing();
        askingAgain();
        weighingOneWeight();
        lawsComeAndGo();
        killingOneCell();
        layingOneChain();
        turningAndCutting();
        objectsApart();
        objectsInTurn();
        Due.end("LeftAloneTest");
    }

    private static List<Supplier<ColdGrid>> pasts() {
        List<Supplier<ColdGrid>> pasts = new ArrayList<>();
        pasts.add(ColdGrid::new);
        pasts.add(Pasts::rich);
        pasts.add(Pasts::fullOfLaws);
        pasts.add(Pasts::beyondSixty);
        for (int number = 0; number <= 6; number++) {
            int failing = number;
            pasts.add(() -> Pasts.failing(failing));
        }
        return pasts;
    }

    private static List<ToIntFunction<ColdGrid>> asking() {
        List<ToIntFunction<ColdGrid>> calls = new ArrayList<>();
        calls.add(x -> x.weight(0, 0));
        calls.add(x -> x.weight(1, 0));
        calls.add(x -> x.energy(0));
        calls.add(x -> x.energy(3));
        calls.add(x -> x.best(0));
        calls.add(x -> x.best(1000));
        calls.add(x -> x.many(0));
        calls.add(x -> x.many(3));
        calls.add(x -> x.bestAt(0, 0));
        calls.add(x -> x.bestAt(3, 0));
        calls.add(x -> x.bestAt(3, 1));
        calls.add(ColdGrid::pull);
        calls.add(x -> x.fixed(0));
        calls.add(x -> x.fixed(1));
        calls.add(ColdGrid::floor);
        calls.add(ColdGrid::stands);
        calls.add(x -> x.link(0, 1, 0));
        calls.add(x -> x.link(1, 0, 1));
        calls.add(ColdGrid::strong);
        calls.add(x -> x.readBack(0));
        calls.add(x -> x.readBack(3));
        calls.add(x -> x.walk(2, 5, 100, 200, 0));
        calls.add(x -> x.walk(2, 5, 100, 200, 1));
        for (int what = 0; what <= 5; what++) {
            int asked = what;
            calls.add(x -> x.count(asked));
        }
        return calls;
    }

    private static void askingChangesNothing() {
        Due.of("4, 5, 8 to 13, 16 to 19, 22, 23: what is asked stays as it is");
        List<ToIntFunction<ColdGrid>> calls = asking();
        for (int past = 0; past < PASTS.size(); past++) {
            for (int k = 0; k < calls.size(); k++) {
                int due = calls.get(k).applyAsInt(PASTS.get(past).get());
                Twins.unchanged(PASTS.get(past), "past " + past + ", call " + k, calls.get(k), due);
            }
        }
    }

    // The rows that calls fill on their way are one another's, so each call follows each other.
    private static void askingAgain() {
        Due.of("what is asked again is answered alike, whatever else was asked in between");
        List<ToIntFunction<ColdGrid>> calls = asking();
        for (int past = 0; past < PASTS.size(); past++) {
            for (int between = 0; between < calls.size(); between++) {
                ColdGrid x = PASTS.get(past).get();
                for (int k = 0; k < calls.size(); k++) {
                    int due = calls.get(k).applyAsInt(x);
                    calls.get(between).applyAsInt(x);
                    Due.is("past " + past + ", call " + k + " after call " + between, calls.get(k).applyAsInt(x), due);
                }
            }
        }
    }

    private static int[] counts(ColdGrid x) {
        int[] told = new int[6];
        for (int what = 0; what < told.length; what++) {
            told[what] = x.count(what);
        }
        return told;
    }

    // All that is counted is as it was, but for that which the call names.
    private static void countsAlike(String what, ColdGrid x, int[] before, int named) {
        int[] after = counts(x);
        for (int k = 0; k < before.length; k++) {
            if (k != named) {
                Due.is(what + ", count(" + k + ")", after[k], before[k]);
            }
        }
    }

    private static void weighingOneWeight() {
        Due.of("3: WEIGHT of a LETTER, or of a PAIR, becomes w; no other one, and nothing else");
        for (int i = 0; i < 3; i++) {
            for (int j = 0; j < 3; j++) {
                String what = "weigh(" + i + ", " + j + ", 41)";
                ColdGrid x = Pasts.rich();
                int[] before = counts(x);
                int was = x.weigh(i, j, 41);
                countsAlike(what, x, before, 1);
                otherWeightsAreAlike(what, x, Pasts.rich(), i, j);
                Due.is(what + ", and back", x.weigh(j, i, was), 41);
                Twins.alike(what + ", and back", x, Pasts.rich());
            }
        }
    }

    private static void otherWeightsAreAlike(String what, ColdGrid x, ColdGrid before, int i, int j) {
        for (int a = 0; a < 3; a++) {
            for (int b = 0; b < 3; b++) {
                boolean weighed = Math.min(a, b) == Math.min(i, j) && Math.max(a, b) == Math.max(i, j);
                Due.is(what + ", weight(" + a + ", " + b + ")", x.weight(a, b), weighed ? 41 : before.weight(a, b));
            }
        }
    }

    private static void lawsComeAndGo() {
        Due.of("6, 7: a LAW comes, and the one told last goes; no other one, and nothing else");
        for (int set = 1; set < 8; set++) {
            for (int k = 0; k <= Integer.bitCount(set); k++) {
                String what = "law(" + set + ", " + k + ")";
                ColdGrid x = Pasts.rich();
                int[] before = counts(x);
                Due.is(what, x.law(set, k), 2);
                countsAlike(what, x, before, 2);
                Due.is(what + ", unlaw()", x.unlaw(), 2);
                countsAlike(what + ", unlaw()", x, before, -1);
                Twins.alike(what + ", unlaw()", x, Pasts.rich());
            }
        }
    }

    private static void killingOneCell() {
        Due.of("14: A CELL is DEAD from now on, or not; no other one, and nothing else");
        for (int cell = 0; cell < 20; cell++) {
            boolean isDead = cell == 4 || cell == 19;
            String what = "kill(" + cell + ", " + !isDead + ")";
            ColdGrid x = Pasts.rich();
            int[] before = counts(x);
            Due.is(what, x.kill(cell, !isDead), isDead ? 1 : 0);
            countsAlike(what, x, before, 3);
            Due.is(what + ", count(3)", x.count(3), isDead ? 1 : 3);
            Due.is(what + ", and back", x.kill(cell, isDead), isDead ? 0 : 1);
            Twins.alike(what + ", and back", x, Pasts.rich());
        }
    }

    private static void layingOneChain() {
        Due.of("15: CHAIN of a LETTER; of no other one, and nothing else");
        int[] laid = {1 << 0 | 1 << 1, 1 << 2, 1 << 7 | 1 << 8};
        for (int letter = 0; letter < laid.length; letter++) {
            for (int cells : new int[] {0, 1 << 10, 1 << 2, 1 << 4, 1048575}) {
                String what = "chain(" + letter + ", " + cells + ")";
                ColdGrid x = Pasts.rich();
                int[] before = counts(x);
                Due.is(what, x.chain(letter, cells), Integer.bitCount(cells));
                countsAlike(what, x, before, 4);
                Due.is(what + ", count(4)", x.count(4),
                    before[4] - Integer.bitCount(laid[letter]) + Integer.bitCount(cells));
                Due.is(what + ", and back", x.chain(letter, laid[letter]), Integer.bitCount(laid[letter]));
                Twins.alike(what + ", and back", x, Pasts.rich());
            }
        }
    }

    private static void turningAndCutting() {
        Due.of("20, 21: WEIGHTS, and by turning the CONSTANT, become others; nothing else");
        for (int set = 0; set < 8; set++) {
            ColdGrid x = Pasts.rich();
            int[] before = counts(x);
            x.turn(set);
            countsAlike("turn(" + set + ")", x, before, 5);
            x.turn(set);
            Twins.alike("turn(" + set + ") twice", x, Pasts.rich());
        }
        for (int s = 1; s <= 20; s++) {
            ColdGrid x = Pasts.rich();
            ColdGrid due = Pasts.rich();
            int[] before = counts(x);
            x.cut(s);
            countsAlike("cut(" + s + ")", x, before, 1);
            for (int i = 0; i < 3; i++) {
                for (int j = 0; j <= i; j++) {
                    x.weigh(i, j, due.weight(i, j));
                }
            }
            Twins.alike("cut(" + s + "), weighed again", x, due);
        }
    }

    private static void objectsApart() {
        Due.of("1: A new object, whatever others have been told");
        ColdGrid other = new ColdGrid();
        for (Supplier<ColdGrid> past : PASTS) {
            ColdGrid made = past.get();
            made.kill(13, true);
            made.chain(0, 1048575);
            made.law(1, 1);
            made.cut(7);
            Twins.alike("made ahead of it", new ColdGrid(), Pasts.of(4));
        }
        Twins.alike("made ahead of them", other, Pasts.of(4));
    }

    private static void objectsInTurn() {
        Due.of("two objects asked in turn answer as each of them alone");
        List<ToIntFunction<ColdGrid>> calls = asking();
        for (int past = 0; past < PASTS.size(); past++) {
            ColdGrid x = PASTS.get(past).get();
            ColdGrid y = PASTS.get((past + 1) % PASTS.size()).get();
            ColdGrid alone = PASTS.get(past).get();
            for (int k = 0; k < calls.size(); k++) {
                calls.get(calls.size() - 1 - k).applyAsInt(y);
                int got = calls.get(k).applyAsInt(x);
                Due.is("past " + past + ", call " + k, got, calls.get(k).applyAsInt(alone));
            }
        }
    }
}
