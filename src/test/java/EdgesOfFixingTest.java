/** Each sentence about letters that may be fixed ahead, and the floor, that names a bound: both of its sides. */
final class EdgesOfFixingTest {
    private static final int LEAST = Integer.MIN_VALUE;
    private static final int MOST = Integer.MAX_VALUE;

    private EdgesOfFixingTest() {
    }

    public static void main(String[] args) {
        asZero();
        asOne();
        zeroAheadOfOne();
        ownOfFixedOnes();
        pairsWithFixedZeros();
        fromZeroOn();
        goingOnToTheLast();
        againAndAgain();
        lawsAreNotLookedAt();
        ways();
        floorOfThoseBelow();
        floorWithConstant();
        Due.end("EdgesOfFixingTest");
    }

    private static void fixedAs(String what, ColdGrid x, int which, int ones) {
        Due.is(what + ", fixed(0)", x.fixed(0), which);
        Due.is(what + ", fixed(1)", x.fixed(1), ones);
    }

    private static ColdGrid two(int first, int second, int pair) {
        ColdGrid x = Pasts.of(2, first, second);
        x.weigh(0, 1, pair);
        return x;
    }

    private static void asZero() {
        Due.of("FIXED as 0, if OWN and all of its PAIRS .. whose WEIGHT is below 0, together, are 0 or more");
        fixedAs("own 1", Pasts.of(1, 1), 1, 0);
        fixedAs("own 0", Pasts.of(1, 0), 1, 0);
        fixedAs("own -1", Pasts.of(1, -1), 1, 1);
        fixedAs("5 and -5", two(5, 1, -5), 3, 0);
        fixedAs("5 and -6", two(5, 1, -6), 0, 0);
        ColdGrid x = Pasts.of(3, 10, 1, 1);
        x.weigh(0, 1, -5);
        x.weigh(0, 2, -5);
        x.weigh(1, 2, -2);
        fixedAs("10, -5 and -5", x, 1, 0);
        x.weigh(0, 0, 9);
        fixedAs("9, -5 and -5", x, 0, 0);
        x.weigh(0, 0, 10);
        x.weigh(0, 1, 50);
        x.weigh(0, 2, -10);
        fixedAs("a pair above 0 is not looked at", x, 1, 0);
        x.weigh(0, 2, -11);
        fixedAs("nor does it help", x, 0, 0);
    }

    private static void asOne() {
        Due.of("else as 1, if OWN and all of these whose WEIGHT is above 0, together, are 0 or less");
        fixedAs("-5 and 5", two(-5, -1, 5), 3, 1);
        fixedAs("-5 and 6", two(-5, -1, 6), 0, 0);
        ColdGrid x = Pasts.of(3, -10, -1, -1);
        x.weigh(0, 1, 5);
        x.weigh(0, 2, 5);
        fixedAs("-10, 5 and 5", x, 7, 1);
        x.weigh(0, 0, -9);
        x.weigh(1, 2, 9);
        fixedAs("-9, 5 and 5", x, 0, 0);
        ColdGrid y = Pasts.of(3, -10, -1, -1);
        y.weigh(0, 1, -50);
        y.weigh(0, 2, 10);
        y.weigh(1, 2, 60);
        // Letter 0 is 1; then OWN of 1 is -51, with 60 above 0; OWN of 2 is 9.
        fixedAs("a pair below 0 is not looked at", y, 7, 3);
        y.weigh(0, 2, 11);
        fixedAs("nor does it help", y, 0, 0);
    }

    private static void zeroAheadOfOne() {
        Due.of("as 0, if ..; else as 1");
        fixedAs("all that may be either are 0", Pasts.of(8), 255, 0);
    }

    private static void ownOfFixedOnes() {
        Due.of("OWN is its WEIGHT and that of its PAIRS with LETTERS FIXED as 1, together");
        // Letter 0 is 1; letter 1 is 0 if it has 5 or more against the -5 of their pair.
        fixedAs("5 by -5", two(-1, 5, -5), 3, 1);
        fixedAs("4 by -5", two(-1, 4, -5), 3, 3);
        fixedAs("-5 by 5", two(-60, -5, 5), 3, 1);
        fixedAs("-6 by 5", two(-60, -6, 5), 3, 3);
    }

    private static void pairsWithFixedZeros() {
        Due.of("its PAIRS with LETTERS that are not FIXED");
        // Once letter 0 is 0 its pair with letter 1 is nothing to either side.
        fixedAs("0 by -60", two(60, 0, -60), 3, 0);
        fixedAs("-1 by 60", two(60, -1, 60), 3, 2);
    }

    private static void fromZeroOn() {
        Due.of("by going through them, from 0 on, .. each that may be FIXED then being so");
        // The lesser is 1, and by that, in the same going, the greater 0.
        fixedAs("two alike", two(-5, -5, 5), 3, 1);
        ColdGrid x = Pasts.of(8);
        x.weigh(6, 6, -5);
        x.weigh(7, 7, -5);
        x.weigh(6, 7, 5);
        fixedAs("the last two alike", x, 255, 64);
    }

    private static void goingOnToTheLast() {
        Due.of("by going through them, from 0 on, again and again: each going goes on to the last LETTER");
        ColdGrid x = Pasts.of(3, 5, 10, 0);
        x.weigh(0, 1, -3);
        x.weigh(0, 2, -5);
        // Letter 1 is 0, by which 0 may be fixed; but 2 comes first, and is 1, as 0 is not fixed yet.
        fixedAs("the next ahead of the first again", x, 7, 4);
        x.weigh(0, 0, 8);
        fixedAs("the first at once", x, 7, 0);
    }

    private static void againAndAgain() {
        Due.of("again and again, until a going through FIXES none");
        fixedAs("a second going", two(-1, 3, 5), 3, 1);
        ColdGrid x = Pasts.of(8, 1, 1, 1, 1, 1, 1, 1, -1);
        for (int i = 0; i < 7; i++) {
            x.weigh(i, i + 1, -2);
        }
        // Letter 7 by the first going, each other by the one after that of the letter above it.
        fixedAs("eight goings", x, 255, 255);
        x.weigh(3, 3, 3);
        // Letter 3 is held: 3 - 2 - 2 is below 0 until 4 is 1, then 1 - 2 is, and 1 is above 0.
        fixedAs("four goings, and one that fixes none", x, 240, 240);
        fixedAs("none by the first", two(-5, -1, 6), 0, 0);
    }

    private static void lawsAreNotLookedAt() {
        Due.of("(LAWS are not looked at.)");
        ColdGrid x = two(-1, 5, -5);
        for (int number = 0; number < 6; number++) {
            x.law(3, number % 3);
        }
        fixedAs("with laws", x, 3, 1);
    }

    private static void ways() {
        Due.of("12: told by bits (way 0), which of these as 1 (1). BAD");
        fixedAs("both ways", two(-1, 5, -5), 3, 1);
        for (int way : new int[] {-1, 2, -2, 3, LEAST, MOST}) {
            Twins.unchanged(Pasts::rich, "fixed(" + way + ")", x -> x.fixed(way), ColdGrid.BAD);
        }
        Twins.unchanged(() -> two(-1, 5, -5), "fixed(0)", x -> x.fixed(0), 3);
        Twins.unchanged(() -> two(-1, 5, -5), "fixed(1)", x -> x.fixed(1), 1);
    }

    private static void floorOfThoseBelow() {
        Due.of("13: all WEIGHTS of LETTERS and PAIRS that are below 0, together");
        Due.is("none", Pasts.of(8).floor(), 0);
        Due.is("all of 60", Pasts.alike(8, 60).floor(), 0);
        Due.is("all of 1", Pasts.alike(8, 1).floor(), 0);
        Due.is("all of -1", Pasts.alike(8, -1).floor(), -36);
        Due.is("all of -60", Pasts.alike(8, -60).floor(), -2160);
        Due.is("a letter of -1", Pasts.of(1, -1).floor(), -1);
        Due.is("a pair of -1", two(1, 1, -1).floor(), -1);
        Due.is("a pair of 1", two(-1, -1, 1).floor(), -2);
    }

    private static void floorWithConstant() {
        Due.of("13: FLOOR: the CONSTANT and");
        ColdGrid x = Pasts.of(1, 60);
        x.turn(1);
        Due.is("60 and -60", x.floor(), 0);
        x.weigh(0, 0, 1);
        Due.is("60 and none", x.floor(), 60);
        ColdGrid y = Pasts.of(1, -60);
        y.turn(1);
        Due.is("-60 and none", y.floor(), -60);
        y.weigh(0, 0, -2);
        Due.is("-60 and -2", y.floor(), -62);
    }
}
