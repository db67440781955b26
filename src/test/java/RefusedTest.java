/** "Refused, and nothing changes, the first that fits": which refusal it is, and how each call tells BAD. */
final class RefusedTest {
    private static final int LEAST = Integer.MIN_VALUE;

    private RefusedTest() {
    }

    public static void main(String[] args) {
        badAheadOfFull();
        badAheadOfNotByLinks();
        badAheadOfNotByReadingBack();
        badAheadOfNotByTurning();
        badByAnyOne();
        leastIntWhereAnswersMayBeBelowZero();
        answersLikeRefusals();
        refusedAgainAndAgain();
        constants();
        Due.end("RefusedTest");
    }

    private static void badAheadOfFull() {
        Due.of("6: the first that fits: BAD, .., FULL");
        int[][] bad = {{0, 0}, {256, 0}, {-1, 0}, {1, 2}, {1, -1}, {255, 9}};
        for (int[] b : bad) {
            Twins.unchanged(Pasts::fullOfLaws, "full, law(" + b[0] + ", " + b[1] + ")", x -> x.law(b[0], b[1]),
                ColdGrid.BAD);
        }
        Twins.unchanged(Pasts::fullOfLaws, "full, law(255, 0)", x -> x.law(255, 0), ColdGrid.FULL);
    }

    private static void badAheadOfNotByLinks() {
        Due.of("17: the first that fits: BAD, NOT");
        int[][] bad = {{0, 0, 0}, {0, 1, 2}, {0, 1, -1}, {0, 3, 0}, {-1, 0, 0}, {3, 3, 0}, {0, 2, 2}};
        for (int number = 0; number <= 6; number++) {
            int failing = number;
            for (int[] b : bad) {
                String link = "link(" + b[0] + ", " + b[1] + ", " + b[2] + ")";
                Twins.unchanged(() -> Pasts.failing(failing), failing + " fails, " + link,
                    x -> x.link(b[0], b[1], b[2]), ColdGrid.BAD);
            }
            Twins.unchanged(() -> Pasts.failing(failing), failing + " fails, link(0, 2, 0) of weight 0",
                x -> x.link(0, 2, 0), ColdGrid.NOT);
        }
    }

    private static void badAheadOfNotByReadingBack() {
        Due.of("19: the first that fits: BAD, NOT");
        for (int number = 1; number <= 6; number++) {
            int failing = number;
            for (int cells : new int[] {1 << 4, 1 << 20, -1, LEAST}) {
                Twins.unchanged(() -> Pasts.failing(failing), failing + " fails, readBack(" + cells + ")",
                    x -> x.readBack(cells), ColdGrid.BAD);
            }
        }
        Due.is("no chains, readBack(1)", new ColdGrid().readBack(1), ColdGrid.BAD);
    }

    private static void badAheadOfNotByTurning() {
        Due.of("20: the first that fits: BAD, NOT");
        for (int set : new int[] {4, -1, LEAST}) {
            Twins.unchanged(Pasts::beyondSixty, "turn(" + set + ")", x -> x.turn(set), LEAST);
        }
        Twins.unchanged(Pasts::beyondSixty, "turn(3)", x -> x.turn(3), ColdGrid.NOT);
    }

    private static void badByAnyOne() {
        Due.of("BAD (no such LETTER, CELL, LAW, STATE, or a number out of its bounds), one of them being enough");
        int[][] weighs = {{3, 0, 0}, {0, 3, 0}, {0, 0, 61}};
        for (int[] w : weighs) {
            Twins.unchanged(Pasts::rich, "weigh(" + w[0] + ", " + w[1] + ", " + w[2] + ")",
                x -> x.weigh(w[0], w[1], w[2]), LEAST);
        }
        int[][] walks = {{8, 0, 0, 1, 0}, {0, 0, 101, 1, 0}, {0, 0, 0, 201, 0}, {0, 0, 0, 1, 2}};
        for (int[] w : walks) {
            Twins.unchanged(Pasts::rich, "walk(" + w[0] + ", " + w[1] + ", " + w[2] + ", " + w[3] + ", " + w[4] + ")",
                x -> x.walk(w[0], w[1], w[2], w[3], w[4]), LEAST);
        }
        Twins.unchanged(Pasts::rich, "bestAt(1001, 0)", x -> x.bestAt(1001, 0), ColdGrid.BAD);
        Twins.unchanged(Pasts::rich, "bestAt(0, 8)", x -> x.bestAt(0, 8), ColdGrid.BAD);
        Twins.unchanged(Pasts::rich, "chain(3, 1)", x -> x.chain(3, 1), ColdGrid.BAD);
        Twins.unchanged(Pasts::rich, "chain(0, 1048576)", x -> x.chain(0, 1048576), ColdGrid.BAD);
        Twins.unchanged(Pasts::rich, "weight(3, 0)", x -> x.weight(3, 0), LEAST);
        Twins.unchanged(Pasts::rich, "weight(0, 3)", x -> x.weight(0, 3), LEAST);
        Twins.unchanged(Pasts::rich, "energy(8)", x -> x.energy(8), LEAST);
        Twins.unchanged(Pasts::rich, "energy(-1)", x -> x.energy(-1), LEAST);
    }

    private static void leastIntWhereAnswersMayBeBelowZero() {
        Due.of("3, 4, 5, 8, 20, 22, 23: The least int: BAD; all others: BAD");
        ColdGrid x = new ColdGrid();
        int[] byLeast = {x.weigh(4, 0, 0), x.weight(4, 0), x.energy(16), x.best(1001), x.turn(16),
            x.walk(16, 0, 0, 1, 0), x.count(6)};
        for (int k = 0; k < byLeast.length; k++) {
            Due.is("by the least int, number " + k, byLeast[k], LEAST);
        }
        int[] byBad = {x.letters(9), x.law(16, 0), x.many(1001), x.bestAt(1001, 0), x.fixed(2), x.kill(20, true),
            x.chain(4, 0), x.link(0, 4, 0), x.readBack(1), x.cut(21)};
        for (int k = 0; k < byBad.length; k++) {
            Due.is("by BAD, number " + k, byBad[k], ColdGrid.BAD);
        }
    }

    private static void answersLikeRefusals() {
        Due.of("what is like BAD, NOT or FULL is an answer where weights and energies are told");
        for (int w = -4; w <= -1; w++) {
            ColdGrid x = Pasts.of(1, w);
            Due.is("weight(0, 0)", x.weight(0, 0), w);
            Due.is("weigh(0, 0, w)", x.weigh(0, 0, w), w);
            Due.is("energy(1)", x.energy(1), w);
            Due.is("best(0)", x.best(0), w);
            Due.is("floor()", x.floor(), w);
            Due.is("walk by way 1", x.walk(0, 0, 0, 1, 1), w);
            Due.is("turn(1)", x.turn(1), w);
            Due.is("count(5)", x.count(5), w);
        }
    }

    private static void refusedAgainAndAgain() {
        Due.of("Refused, and nothing changes");
        ColdGrid x = Pasts.rich();
        for (int time = 0; time < 5; time++) {
            x.letters(0);
            x.weigh(0, 3, 1);
            x.weigh(0, 0, 61);
            x.law(8, 0);
            x.law(7, 4);
            x.kill(20, true);
            x.kill(-1, false);
            x.chain(3, 1);
            x.chain(0, 1048576);
            x.turn(8);
            x.cut(0);
            x.cut(21);
            x.walk(0, 1, 101, 1, 0);
            x.link(0, 2, 0);
            x.readBack(1 << 19);
        }
        Twins.alike("seventy-five refused calls", x, Pasts.rich());
    }

    private static void constants() {
        Due.of("NONE = -1, BAD = -2, NOT = -3, FULL = -4");
        Due.is("NONE", ColdGrid.NONE, -1);
        Due.is("BAD", ColdGrid.BAD, -2);
        Due.is("NOT", ColdGrid.NOT, -3);
        Due.is("FULL", ColdGrid.FULL, -4);
    }
}
