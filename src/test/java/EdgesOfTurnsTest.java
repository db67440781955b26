/** Each sentence about turning, cutting, walking and counting that names a bound: both of its sides. */
final class EdgesOfTurnsTest {
    private static final int LEAST = Integer.MIN_VALUE;
    private static final int MOST = Integer.MAX_VALUE;
    // By hand from 100 on, each nine tenths of the one before, cut.
    private static final int[] HEATS = {100, 90, 81, 72, 64, 57, 51, 45, 40, 36, 32, 28, 25, 22, 19, 17, 15, 13, 11, 9};

    private EdgesOfTurnsTest() {
    }

    public static void main(String[] args) {
        turnedEnergies();
        turnedByNoneAndAll();
        setsToTurn();
        turnedToSixty();
        turnedBeyondByCutting();
        turnedToMinusThree();
        turningLeavesTheRest();
        steps();
        nearestMultiples();
        nearerToZero();
        cutBeyondSixty();
        loss();
        cuttingLeavesTheRest();
        heats();
        moves();
        waysToTell();
        anySeed();
        lettersLookedAt();
        notMore();
        asMuchAs();
        everyTenthMove();
        heatAtItsEnd();
        leastEnergyMet();
        walksChangeNothing();
        whatToCount();
        countsAtTheirEnds();
        Due.end("EdgesOfTurnsTest");
    }

    private static void turnedEnergies() {
        Due.of("20: each STATE has the ENERGY that the STATE had which differs from it in just these LETTERS");
        for (int set = 0; set < 8; set++) {
            ColdGrid before = Pasts.rich();
            ColdGrid x = Pasts.rich();
            Due.is("turn(" + set + ")", x.turn(set), before.energy(set));
            for (int state = 0; state < 8; state++) {
                Due.is("turned by " + set + ", energy(" + state + ")", x.energy(state), before.energy(state ^ set));
            }
        }
    }

    private static void turnedByNoneAndAll() {
        Due.of("20: TURNED by a set of LETTERS, which may be empty, or all");
        Twins.unchanged(Pasts::rich, "turn(0)", x -> x.turn(0), 7);
        Twins.unchanged(ColdGrid::new, "turn(15) without weights", x -> x.turn(15), 0);
        ColdGrid x = Pasts.of(8, 1, 2, 3, 4, 5, 6, 7, 8);
        Due.is("turn(255)", x.turn(255), 36);
        Due.is("energy(255)", x.energy(255), 0);
        Due.is("weight(7, 7)", x.weight(7, 7), -8);
        Due.is("turn(255) again", x.turn(255), 0);
        Due.is("weight(7, 7) again", x.weight(7, 7), 8);
    }

    private static void setsToTurn() {
        Due.of("20: The least int: BAD");
        for (int set : new int[] {-1, 8, 9, LEAST, MOST}) {
            Twins.unchanged(Pasts::rich, "turn(" + set + ")", x -> x.turn(set), LEAST);
        }
        Due.is("turn(7)", Pasts.rich().turn(7), Pasts.rich().energy(7));
    }

    private static ColdGrid two(int first, int second, int pair) {
        ColdGrid x = Pasts.of(2, first, second);
        x.weigh(0, 1, pair);
        return x;
    }

    private static void turnedToSixty() {
        Due.of("20: NOT: a WEIGHT would be beyond 60");
        ColdGrid x = two(30, 31, 29);
        Due.is("60", x.turn(1), 30);
        Due.is("60", x.weight(1, 1), 60);
        Twins.unchanged(() -> two(30, 31, 30), "61 of the other letter", y -> y.turn(1), ColdGrid.NOT);
        Twins.unchanged(() -> two(31, 30, 30), "61 of the letter before", y -> y.turn(2), ColdGrid.NOT);
        Due.is("60 of the letter before", two(30, 31, 30).turn(2), 31);
        ColdGrid below = two(-30, -31, -29);
        Due.is("-60", below.turn(1), -30);
        Due.is("-60", below.weight(1, 1), -60);
        Twins.unchanged(() -> two(-30, -31, -30), "-61 of the other letter", y -> y.turn(1), ColdGrid.NOT);
        Due.is("both turned, -60", two(30, 30, 30).turn(3), 90);
        Twins.unchanged(() -> two(30, 31, 30), "both turned, -61", y -> y.turn(3), ColdGrid.NOT);
        Due.is("both turned, 60", two(-30, -30, -30).turn(3), -90);
        Twins.unchanged(() -> two(-31, -30, -30), "both turned, 61", y -> y.turn(3), ColdGrid.NOT);
        Due.is("a pair of 60", two(-60, -60, 60).turn(1), -60);
        Due.is("a pair of -60", two(0, 0, -60).turn(1), 0);
    }

    private static void turnedBeyondByCutting() {
        Due.of("20: a WEIGHT would be beyond 60, which CUT had put there");
        for (int set = 0; set < 4; set++) {
            int by = set;
            Twins.unchanged(Pasts::beyondSixty, "turn(" + set + ")", x -> x.turn(by), ColdGrid.NOT);
        }
        ColdGrid x = Pasts.beyondSixty();
        x.weigh(0, 1, 0);
        Due.is("a letter's alone", x.turn(0), ColdGrid.NOT);
        x.weigh(0, 0, 60);
        Due.is("60 again", x.turn(0), 0);
        ColdGrid y = two(60, 0, 60);
        y.cut(17);
        y.weigh(0, 0, -8);
        // 68 of the pair alone is beyond.
        Due.is("a pair's alone", y.turn(0), ColdGrid.NOT);
        // Turned, letter 1 would be -68, letter 0 60.
        Due.is("a pair's alone, turned by letter 1", y.turn(2), ColdGrid.NOT);
    }

    private static void turnedToMinusThree() {
        Due.of("20: TURNED: the CONSTANT then");
        for (int w = -60; w <= 60; w++) {
            ColdGrid x = Pasts.of(1, w);
            Due.is("turn(1) of " + w, x.turn(1), w);
            Due.is("count(5)", x.count(5), w);
            Due.is("weight(0, 0)", x.weight(0, 0), -w);
        }
    }

    private static void turningLeavesTheRest() {
        Due.of("20: WEIGHTS and the CONSTANT become such");
        ColdGrid x = Pasts.rich();
        x.turn(5);
        Due.is("count(0)", x.count(0), 3);
        Due.is("count(1)", x.count(1), 2);
        Due.is("count(2)", x.count(2), 2);
        Due.is("count(3)", x.count(3), 2);
        Due.is("count(4)", x.count(4), 5);
        x.turn(5);
        Twins.alike("turned and back", x, Pasts.rich());
    }

    private static void steps() {
        Due.of("21: steps of s (1 .. 20). BAD");
        Twins.unchanged(Pasts::rich, "cut(1)", x -> x.cut(1), 0);
        Due.is("cut(20) of 11", Pasts.of(1, 11).cut(20), 9);
        for (int s : new int[] {0, 21, -1, 22, LEAST, MOST}) {
            Twins.unchanged(Pasts::rich, "cut(" + s + ")", x -> x.cut(s), ColdGrid.BAD);
        }
    }

    private static void nearestMultiples() {
        Due.of("21: each WEIGHT becomes the nearest multiple of s");
        for (int s = 1; s <= 20; s++) {
            for (int w = -60; w <= 60; w++) {
                int due = 0;
                for (int k = 1; k <= 80; k++) {
                    int multiple = w < 0 ? -k * s : k * s;
                    due = Math.abs(w - multiple) < Math.abs(w - due) ? multiple : due;
                }
                ColdGrid x = two(w, 0, w);
                x.cut(s);
                Due.is(w + " by " + s, x.weight(0, 0), due);
                Due.is("pair " + w + " by " + s, x.weight(1, 0), due);
            }
        }
    }

    private static void nearerToZero() {
        Due.of("21: of two the one nearer to 0");
        int[][] due = {{2, 1, 0}, {2, 3, 2}, {4, 6, 4}, {4, 7, 8}, {4, 5, 4}, {10, 5, 0}, {10, 6, 10}, {10, 15, 10},
            {10, 16, 20}, {20, 10, 0}, {20, 11, 20}, {20, 30, 20}, {20, 31, 40}, {20, 50, 40}, {20, 51, 60}, {18, 9, 0},
            {8, 60, 56}};
        for (int[] d : due) {
            ColdGrid above = two(d[1], 0, d[1]);
            above.cut(d[0]);
            Due.is(d[1] + " by " + d[0], above.weight(0, 0), d[2]);
            Due.is("pair " + d[1] + " by " + d[0], above.weight(0, 1), d[2]);
            ColdGrid below = two(-d[1], 0, -d[1]);
            below.cut(d[0]);
            Due.is(-d[1] + " by " + d[0], below.weight(0, 0), -d[2]);
            Due.is("pair " + -d[1] + " by " + d[0], below.weight(0, 1), -d[2]);
        }
    }

    private static void cutBeyondSixty() {
        Due.of("21: it may be beyond 60 so");
        int[][] due = {{7, 63}, {8, 56}, {9, 63}, {11, 55}, {13, 65}, {14, 56}, {16, 64}, {17, 68}, {18, 54}, {19, 57},
            {20, 60}};
        for (int[] d : due) {
            Due.is("loss of 60 by " + d[0], Pasts.of(1, 60).cut(d[0]), Math.abs(d[1] - 60));
            ColdGrid x = two(60, -60, -60);
            x.cut(d[0]);
            Due.is("60 by " + d[0], x.weight(0, 0), d[1]);
            Due.is("-60 by " + d[0], x.weight(1, 1), -d[1]);
            Due.is("pair -60 by " + d[0], x.weight(0, 1), -d[1]);
        }
        ColdGrid far = Pasts.beyondSixty();
        Due.is("energy of 68", far.energy(1), 68);
        Due.is("again, by 19", far.cut(19), 8);
        Due.is("76", far.weight(0, 0), 76);
        Due.is("-76", far.weight(0, 1), -76);
        Due.is("weigh is refused still", far.weigh(0, 0, 61), LEAST);
        Due.is("weigh within", far.weigh(0, 0, 60), 76);
    }

    private static void loss() {
        Due.of("21: LOSS: the greatest difference of the ENERGY of a STATE by that");
        Due.is("none", Pasts.of(8).cut(20), 0);
        Due.is("more", Pasts.of(1, 11).cut(20), 9);
        Due.is("less", Pasts.of(1, 10).cut(20), 10);
        Due.is("two the same way", Pasts.of(2, 10, 10).cut(20), 20);
        Due.is("two ways, the greater", Pasts.of(2, 11, 10).cut(20), 10);
        Due.is("two ways, the greater", Pasts.of(2, 11, 8).cut(20), 9);
        Due.is("a pair undoes it", two(10, 10, -10).cut(20), 10);
        Due.is("all of 10, full state", Pasts.alike(8, 10).cut(20), 360);
        Due.is("all of -11, full state", Pasts.alike(8, -11).cut(20), 324);
    }

    private static void cuttingLeavesTheRest() {
        Due.of("21: each WEIGHT becomes; the CONSTANT and all else stay");
        ColdGrid x = Pasts.rich();
        x.cut(20);
        int[] due = {3, 1, 2, 2, 5, 7};
        for (int what = 0; what < due.length; what++) {
            Due.is("count(" + what + ")", x.count(what), due[what]);
        }
        Due.is("energy(0)", x.energy(0), 7);
    }

    private static void heats() {
        Due.of("22: HEAT t (0 .. 100)");
        // Seed 0: z is 12345, which looks at letter 0; 12345 / 256, cut, is 48.
        Due.is("heat 100 of 48", Pasts.of(1, 48).walk(0, 0, 100, 1, 0), 1);
        Due.is("heat 100 of 49", Pasts.of(1, 49).walk(0, 0, 100, 1, 0), 0);
        Due.is("heat 0 of 0", Pasts.of(1, 0).walk(0, 0, 0, 1, 0), 1);
        Due.is("heat 0 of 1", Pasts.of(1, 1).walk(0, 0, 0, 1, 0), 0);
        for (int heat : new int[] {-1, 101, -2, 102, LEAST, MOST}) {
            Twins.unchanged(Pasts::rich, "heat " + heat, x -> x.walk(0, 1, heat, 1, 0), LEAST);
        }
    }

    private static void moves() {
        Due.of("22: m moves (1 .. 200)");
        // One letter without weight is changed by each move.
        ColdGrid x = Pasts.of(1);
        for (int m = 1; m <= 200; m++) {
            Due.is(m + " moves", x.walk(0, 7, 100, m, 0), m % 2);
        }
        for (int m : new int[] {0, 201, -1, 202, LEAST, MOST}) {
            Twins.unchanged(Pasts::rich, m + " moves", y -> y.walk(0, 1, 0, m, 0), LEAST);
        }
    }

    private static void waysToTell() {
        Due.of("22: the STATE at its end (way 0), the least ENERGY (1). The least int: BAD");
        Due.is("way 0", Pasts.of(1, -5).walk(0, 0, 0, 1, 0), 1);
        Due.is("way 1", Pasts.of(1, -5).walk(0, 0, 0, 1, 1), -5);
        for (int way : new int[] {-1, 2, -2, 3, LEAST, MOST}) {
            Twins.unchanged(Pasts::rich, "way " + way, x -> x.walk(0, 1, 0, 1, way), LEAST);
        }
        for (int state : new int[] {-1, 8, LEAST, MOST}) {
            Twins.unchanged(Pasts::rich, "from " + state, x -> x.walk(state, 1, 0, 1, 0), LEAST);
        }
    }

    private static void anySeed() {
        Due.of("22: z becomes (z 1103515245 + 12345) modulo 2^31");
        // By hand: of -1 and of 2^31 - 1 it is 1043980748, of 0 and of -2^31 12345, of 1 and of 1 - 2^31 1103527590.
        int[][] due = {{-1, 2}, {MOST, 2}, {0, 1}, {LEAST, 1}, {1, 4}, {LEAST + 1, 4}};
        for (int[] d : due) {
            Due.is("one move by " + d[0], Pasts.of(4).walk(0, d[0], 0, 1, 0), d[1]);
        }
        for (int seed = -40; seed <= 40; seed++) {
            int alike = seed ^ LEAST;
            Due.is(seed + " and " + alike, Pasts.fullOfLaws().walk(90, seed, 60, 200, 0),
                Pasts.fullOfLaws().walk(90, alike, 60, 200, 0));
        }
        long z = 5;
        ColdGrid x = Pasts.of(8);
        int state = 0;
        for (int m = 1; m <= 200; m++) {
            z = (z * 1103515245L + 12345L) % 2147483648L;
            state ^= 1 << (int) (z / 65536 % 8);
            Due.is(m + " moves by 5", x.walk(0, 5, 0, m, 0), state);
        }
    }

    private static void lettersLookedAt() {
        Due.of("22: LETTER (z / 65536, cut) modulo n is looked at");
        // Seed 1: 1103527590 / 65536, cut, is 16838.
        int[] due = {0, 0, 2, 2, 3, 2, 3, 6};
        for (int n = 1; n <= 8; n++) {
            int all = (1 << n) - 1;
            int changed = 1 << due[n - 1];
            Due.is("of " + n, Pasts.of(n).walk(0, 1, 0, 1, 0), changed);
            Due.is("of " + n + ", from all", Pasts.of(n).walk(all, 1, 0, 1, 0), all - changed);
        }
    }

    private static void notMore() {
        Due.of("22: it is changed, if ENERGY does not become more");
        for (int w = -60; w <= 60; w++) {
            Due.is("to 1, weight " + w, Pasts.of(1, w).walk(0, 0, 0, 1, 0), w <= 0 ? 1 : 0);
            Due.is("to 0, weight " + w, Pasts.of(1, w).walk(1, 0, 0, 1, 0), w >= 0 ? 0 : 1);
        }
        // Letter 0 is looked at, of own 5 and with letter 1 -5 or -4.
        Due.is("with the pair, as much", two(5, 0, -5).walk(2, 0, 0, 1, 0), 3);
        Due.is("with the pair, more", two(5, 0, -4).walk(2, 0, 0, 1, 0), 2);
        Due.is("with the pair of one that is 0", two(5, 0, -5).walk(0, 0, 0, 1, 0), 0);
    }

    private static void asMuchAs() {
        Due.of("22: or by less than or as much as (z / 256, cut) modulo (HEAT + 1)");
        // Seed 0: 48 modulo (HEAT + 1).
        int[][] due = {{100, 48}, {49, 48}, {48, 48}, {47, 0}, {46, 1}, {24, 23}, {23, 0}, {16, 14}, {1, 0}, {0, 0}};
        for (int[] d : due) {
            Due.is("heat " + d[0] + ", as much", Pasts.of(1, d[1]).walk(0, 0, d[0], 1, 0), 1);
            Due.is("heat " + d[0] + ", more", Pasts.of(1, d[1] + 1).walk(0, 0, d[0], 1, 0), 0);
            Due.is("heat " + d[0] + ", as much, to 0", Pasts.of(1, -d[1]).walk(1, 0, d[0], 1, 0), 0);
            Due.is("heat " + d[0] + ", more, to 0", Pasts.of(1, -d[1] - 1).walk(1, 0, d[0], 1, 0), 1);
        }
    }

    private static void everyTenthMove() {
        Due.of("22: HEAT then becomes HEAT 9 / 10, cut, at every tenth move");
        for (int seed = 1; seed <= 60; seed++) {
            ColdGrid x = Pasts.of(1, seed % 12 + 1);
            long z = seed;
            int here = 0;
            for (int m = 1; m <= 200; m++) {
                z = (z * 1103515245L + 12345L) % 2147483648L;
                boolean rises = seed % 12 + 1 <= z / 256 % (HEATS[(m - 1) / 10] + 1);
                here = here == 0 && rises ? 1 : 0;
                Due.is(m + " moves by " + seed, x.walk(0, seed, 100, m, 0), here);
            }
        }
    }

    private static void heatAtItsEnd() {
        Due.of("22: cut, down to HEAT 0, which stays");
        int[][] heats = {{1, 0, 0}, {2, 1, 0}, {3, 2, 1}, {9, 8, 7}, {10, 9, 8}, {11, 9, 8}, {0, 0, 0}};
        for (int[] of : heats) {
            for (int seed = -20; seed <= 20; seed++) {
                ColdGrid x = Pasts.of(1, 1);
                long z = seed;
                int here = 0;
                for (int m = 1; m <= 30; m++) {
                    z = Math.floorMod(z * 1103515245L + 12345L, 2147483648L);
                    here = here == 0 && z / 256 % (of[(m - 1) / 10] + 1) >= 1 ? 1 : 0;
                    Due.is("heat " + of[0] + ", " + m + " moves by " + seed, x.walk(0, seed, of[0], m, 0), here);
                }
            }
        }
    }

    private static void leastEnergyMet() {
        Due.of("22: the least ENERGY that it met (its beginning, too)");
        Due.is("the beginning, which is left", Pasts.of(1, 48).walk(0, 0, 100, 1, 1), 0);
        Due.is("the beginning, which is not left", Pasts.of(1, 49).walk(0, 0, 100, 1, 1), 0);
        Due.is("the end", Pasts.of(1, 49).walk(1, 0, 100, 1, 1), 0);
        Due.is("the end, below 0", Pasts.of(1, -49).walk(0, 0, 100, 1, 1), -49);
        Due.is("the beginning, below 0", Pasts.of(1, -48).walk(1, 0, 100, 1, 1), -48);
        ColdGrid constant = Pasts.of(1, 60);
        constant.turn(1);
        Due.is("with a constant", constant.walk(0, 0, 0, 1, 1), 0);
        Due.is("with a constant", constant.walk(0, 0, 0, 1, 0), 1);
        // One letter of weight -1, from 0: the first move makes it 1; later ones may make it 0 again.
        ColdGrid midst = Pasts.of(1, -1);
        boolean somewhereLeft = false;
        for (int m = 1; m <= 200; m++) {
            Due.is("the midst, " + m + " moves", midst.walk(0, 3, 100, m, 1), -1);
            somewhereLeft |= midst.walk(0, 3, 100, m, 0) == 0;
        }
        Due.is("the midst is left", somewhereLeft ? 1 : 0, 1);
    }

    private static void walksChangeNothing() {
        Due.of("22: (Nothing is changed.)");
        int end = Pasts.rich().walk(5, 9, 100, 200, 0);
        int least = Pasts.rich().walk(5, 9, 100, 200, 1);
        Twins.unchanged(Pasts::rich, "walk(5, 9, 100, 200, 0)", x -> x.walk(5, 9, 100, 200, 0), end);
        Twins.unchanged(Pasts::rich, "walk(5, 9, 100, 200, 1)", x -> x.walk(5, 9, 100, 200, 1), least);
        ColdGrid x = Pasts.rich();
        for (int k = 0; k < 100; k++) {
            Due.is("again and again", x.walk(5, 9, 100, 200, 0), end);
        }
    }

    private static void whatToCount() {
        Due.of("23: 0 .. 5. The least int: BAD");
        int[] due = {3, 2, 2, 2, 5, 7};
        for (int what = 0; what <= 5; what++) {
            int asked = what;
            Twins.unchanged(Pasts::rich, "count(" + what + ")", x -> x.count(asked), due[what]);
        }
        for (int what : new int[] {-1, 6, -2, 7, LEAST, MOST}) {
            Twins.unchanged(Pasts::rich, "count(" + what + ")", x -> x.count(what), LEAST);
        }
    }

    private static void countsAtTheirEnds() {
        Due.of("23: PAIRS with a WEIGHT other than 0, CELLS of all CHAINS together, the CONSTANT");
        Due.is("pairs of one letter", Pasts.alike(1, 60).count(1), 0);
        Due.is("pairs of eight, of 1", Pasts.alike(8, 1).count(1), 28);
        Due.is("pairs of eight, of -1", Pasts.alike(8, -1).count(1), 28);
        Due.is("pairs of eight, of 0", Pasts.alike(8, 0).count(1), 0);
        Due.is("weights of letters alone", Pasts.of(8, 1, 2, 3, 4, 5, 6, 7, 8).count(1), 0);
        ColdGrid cut = two(1, 1, 10);
        Due.is("a pair of 10", cut.count(1), 1);
        cut.cut(20);
        Due.is("cut to 0", cut.count(1), 0);
        ColdGrid x = Pasts.of(8);
        for (int i = 0; i < 8; i++) {
            Due.is("cells, " + i + " chains of 20", x.count(4), 20 * i);
            x.chain(i, 1048575);
        }
        Due.is("cells, 8 chains of 20", x.count(4), 160);
        ColdGrid below = Pasts.of(1, -2);
        below.turn(1);
        Due.is("a constant of -2", below.count(5), -2);
    }
}
