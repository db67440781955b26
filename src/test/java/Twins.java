import java.util.ArrayList;
import java.util.List;
import java.util.function.Supplier;
import java.util.function.ToIntFunction;

/** Two objects of one past, of which the one is asked something that must change nothing. */
final class Twins {
    private Twins() {
    }

    /** The call answers what is due, and all that can be known later is as if it had not been made. */
    static void unchanged(Supplier<ColdGrid> past, String what, ToIntFunction<ColdGrid> call, int due) {
        ColdGrid asked = past.get();
        Due.is(what, call.applyAsInt(asked), due);
        alike(what + ", what is held after it", asked, past.get());
    }

    static void alike(String what, ColdGrid one, ColdGrid other) {
        List<Integer> got = allThatIsHeld(one);
        List<Integer> want = allThatIsHeld(other);
        Due.is(what + ", how much", got.size(), want.size());
        for (int k = 0; k < Math.min(got.size(), want.size()); k++) {
            Due.is(what + ", number " + k, got.get(k), want.get(k));
        }
    }

    // Some 300 calls at most, so that an object's 512 suffice; the object is emptied by them.
    private static List<Integer> allThatIsHeld(ColdGrid x) {
        List<Integer> told = new ArrayList<>();
        for (int what = 0; what <= 5; what++) {
            told.add(x.count(what));
        }
        tellWeights(x, told);
        told.add(x.stands());
        told.add(x.strong());
        told.add(x.link(0, 1, 0));
        told.add(x.link(0, 1, 1));
        tellLaws(x, told);
        tellChains(x, told);
        for (int cell = 0; cell < 20; cell++) {
            told.add(x.kill(cell, true));
        }
        return told;
    }

    private static void tellWeights(ColdGrid x, List<Integer> told) {
        int n = x.count(0);
        for (int i = 0; i < n; i++) {
            for (int j = i; j < n; j++) {
                told.add(x.weight(i, j));
            }
        }
        told.add(x.energy((1 << n) - 1));
        told.add(x.floor());
        told.add(x.fixed(0));
        told.add(x.walk(0, 3, 9, 9, 0));
    }

    // By what each law, from the last on, does to the best states.
    private static void tellLaws(ColdGrid x, List<Integer> told) {
        for (int left = x.count(2); left >= 0; left--) {
            told.add(x.pull());
            told.add(x.best(1));
            told.add(x.best(7));
            told.add(x.bestAt(1000, 0));
            told.add(x.many(1000));
            told.add(x.unlaw());
        }
    }

    // By which cells are of some chain, while the chains go one by one.
    private static void tellChains(ColdGrid x, List<Integer> told) {
        int n = x.count(0);
        for (int letter = 0; letter < n; letter++) {
            for (int cell = 0; cell < 20; cell++) {
                told.add(x.readBack(1 << cell) == ColdGrid.BAD ? 0 : 1);
            }
            x.chain(letter, 0);
            told.add(x.count(4));
        }
    }
}
