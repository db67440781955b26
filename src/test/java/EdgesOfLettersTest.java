/** Each sentence about letters, weights, laws and best states that names a bound: both of its sides. */
final class EdgesOfLettersTest {
    private static final int LEAST = Integer.MIN_VALUE;
    private static final int MOST = Integer.MAX_VALUE;

    private EdgesOfLettersTest() {
    }

    public static void main(String[] args) {
        fourAtFirst();
        oneToEightLetters();
        lettersBeginAnew();
        deadCellsStay();
        numbersOfLetters();
        statesByBits();
        weightsToSixty();
        weightsAndConstantAtFirst();
        whatItWas();
        aPairInEitherOrder();
        emptyAndFullState();
        bothOfAPair();
        sixLaws();
        setsOfLaws();
        numbersOfLaws();
        noLawToGo();
        pulls();
        squares();
        eachLaw();
        withoutPull();
        bestStatesInRise();
        leastPull();
        leastPullAmongKeepers();
        leastPullNone();
        leastPullAtItsEnd();
        Due.end("EdgesOfLettersTest");
    }

    private static void fourAtFirst() {
        Due.of("1: Four LETTERS, no WEIGHTS, LAWS, CHAINS");
        ColdGrid x = new ColdGrid();
        Due.is("count(0)", x.count(0), 4);
        Due.is("weight(3, 3)", x.weight(3, 3), 0);
        Due.is("weight(4, 4)", x.weight(4, 4), LEAST);
        Due.is("count(1)", x.count(1), 0);
        Due.is("count(2)", x.count(2), 0);
        Due.is("unlaw()", x.unlaw(), ColdGrid.NOT);
        Due.is("count(4)", x.count(4), 0);
        Due.is("stands()", x.stands(), 1);
        Twins.alike("new, and of four letters", new ColdGrid(), Pasts.of(4));
    }

    private static void oneToEightLetters() {
        Due.of("2: n 1 .. 8");
        for (int n = 1; n <= 8; n++) {
            ColdGrid x = new ColdGrid();
            Due.is("letters(" + n + ")", x.letters(n), 1);
            Due.is("count(0)", x.count(0), n);
        }
        for (int n : new int[] {0, 9, -1, 10, LEAST, MOST}) {
            Twins.unchanged(Pasts::rich, "letters(" + n + ")", x -> x.letters(n), ColdGrid.BAD);
            Twins.unchanged(Pasts::fullOfLaws, "letters(" + n + ")", x -> x.letters(n), ColdGrid.BAD);
        }
    }

    private static void lettersBeginAnew() {
        Due.of("2: all is as at first but for that");
        for (int n = 1; n <= 8; n++) {
            ColdGrid x = Pasts.rich();
            x.kill(4, false);
            x.kill(19, false);
            x.letters(n);
            Twins.alike("letters(" + n + ")", x, Pasts.of(n));
            ColdGrid y = Pasts.fullOfLaws();
            y.chain(7, 1 << 19);
            y.letters(n);
            Twins.alike("after eight, letters(" + n + ")", y, Pasts.of(n));
        }
        ColdGrid back = Pasts.alike(8, 60);
        back.chain(7, 3);
        back.letters(1);
        back.letters(8);
        Twins.alike("fewer, and again eight", back, Pasts.of(8));
    }

    private static void deadCellsStay() {
        Due.of("2: but for that and DEAD CELLS");
        ColdGrid x = new ColdGrid();
        x.kill(0, true);
        x.kill(19, true);
        x.letters(1);
        Due.is("count(3)", x.count(3), 2);
        Due.is("kill(0, true)", x.kill(0, true), 1);
        Due.is("kill(19, true)", x.kill(19, true), 1);
        x.chain(0, 1 << 19);
        Due.is("stands()", x.stands(), 2);
    }

    private static void numbersOfLetters() {
        Due.of("LETTERS are 0 .. n - 1");
        for (int n = 1; n <= 8; n++) {
            ColdGrid x = Pasts.of(n);
            int last = n - 1;
            Due.is("weigh the last", x.weigh(last, last, 5), 0);
            Due.is("weight of the last", x.weight(last, last), 5);
            Due.is("chain of the last", x.chain(last, 1), 1);
            Due.is("chain of the first", x.chain(0, 6), 2);
            for (int i : new int[] {-1, n, n + 1, LEAST, MOST}) {
                String of = n + " letters, of " + i;
                Due.is(of + ", weigh(i, 0)", x.weigh(i, 0, 1), LEAST);
                Due.is(of + ", weigh(0, i)", x.weigh(0, i, 1), LEAST);
                Due.is(of + ", weigh(i, i)", x.weigh(i, i, 1), LEAST);
                Due.is(of + ", weight(i, 0)", x.weight(i, 0), LEAST);
                Due.is(of + ", weight(0, i)", x.weight(0, i), LEAST);
                Due.is(of + ", weight(i, i)", x.weight(i, i), LEAST);
                Due.is(of + ", chain", x.chain(i, 1), ColdGrid.BAD);
                Due.is(of + ", link(i, 0)", x.link(i, 0, 0), ColdGrid.BAD);
                Due.is(of + ", link(0, i)", x.link(0, i, 0), ColdGrid.BAD);
            }
            // Of one letter the last is the first, too.
            Due.is("link of first and last", x.link(0, last, 0), n == 1 ? ColdGrid.BAD : ColdGrid.NOT);
        }
    }

    private static void statesByBits() {
        Due.of("a STATE is told by bits (bit i for LETTER i)");
        for (int n = 1; n <= 8; n++) {
            ColdGrid x = Pasts.alike(n, 1);
            int all = (1 << n) - 1;
            Due.is("energy(" + all + ")", x.energy(all), n * (n + 1) / 2);
            Due.is("energy(0)", x.energy(0), 0);
            Due.is("walk from " + all, x.walk(all, 0, 0, 1, 0), all - 1);
            Due.is("law(" + all + ", 0)", x.law(all, 0), 0);
            for (int state : new int[] {-1, all + 1, all + 2, LEAST, MOST}) {
                Due.is("energy(" + state + ")", x.energy(state), LEAST);
                Due.is("walk from " + state, x.walk(state, 0, 0, 1, 0), LEAST);
                Due.is("law(" + state + ", 0)", x.law(state, 0), ColdGrid.BAD);
                Due.is("turn(" + state + ")", x.turn(state), LEAST);
            }
            Due.is("turn(" + all + ")", x.turn(all), n * (n + 1) / 2);
        }
        ColdGrid y = Pasts.of(8, 1, 2, 4, 8, 16, 32, 5, 6);
        for (int i = 0; i < 8; i++) {
            Due.is("energy of bit " + i, y.energy(1 << i), y.weight(i, i));
        }
    }

    private static void weightsToSixty() {
        Due.of("3: a WEIGHT (-60 .. 60)");
        for (int j = 1; j <= 2; j++) {
            int other = j;
            ColdGrid x = Pasts.rich();
            x.weigh(1, other, 0);
            Due.is("weigh(1, " + other + ", 60)", x.weigh(1, other, 60), 0);
            Due.is("weigh(1, " + other + ", -60)", x.weigh(1, other, -60), 60);
            Due.is("weight(1, " + other + ")", x.weight(1, other), -60);
            for (int w : new int[] {61, -61, 62, -62, LEAST, MOST}) {
                Twins.unchanged(Pasts::rich, "weigh(1, " + other + ", " + w + ")", y -> y.weigh(1, other, w), LEAST);
            }
        }
    }

    private static void weightsAndConstantAtFirst() {
        Due.of("all 0 at first, and there is a CONSTANT (0 at first)");
        ColdGrid x = new ColdGrid();
        for (int i = 0; i < 4; i++) {
            for (int j = 0; j < 4; j++) {
                Due.is("weight(" + i + ", " + j + ")", x.weight(i, j), 0);
            }
        }
        Due.is("count(5)", x.count(5), 0);
        Due.is("energy(0)", x.energy(0), 0);
        Due.is("energy(15)", x.energy(15), 0);
    }

    private static void whatItWas() {
        Due.of("3: becomes w: what it was");
        ColdGrid x = Pasts.of(2);
        int[] told = {60, -60, 0, -1, -2, -3, -4, 1};
        int was = 0;
        for (int w : told) {
            Due.is("weigh(1, 1, " + w + ")", x.weigh(1, 1, w), was);
            Due.is("weight(1, 1)", x.weight(1, 1), w);
            was = w;
        }
        Due.is("beyond 60", Pasts.beyondSixty().weigh(0, 0, 60), 68);
        Due.is("beyond -60", Pasts.beyondSixty().weigh(1, 0, -60), -68);
    }

    private static void aPairInEitherOrder() {
        Due.of("3, 4: WEIGHT of a LETTER (i is j), or of a PAIR");
        ColdGrid x = Pasts.of(8);
        for (int i = 0; i < 8; i++) {
            for (int j = 0; j <= i; j++) {
                Due.is("weigh(" + i + ", " + j + ")", x.weigh(i, j, 7 * i + j - 20), 0);
            }
        }
        for (int i = 0; i < 8; i++) {
            for (int j = 0; j <= i; j++) {
                Due.is("weight(" + i + ", " + j + ")", x.weight(i, j), 7 * i + j - 20);
                Due.is("weight(" + j + ", " + i + ")", x.weight(j, i), 7 * i + j - 20);
            }
        }
    }

    private static void emptyAndFullState() {
        Due.of("5: the CONSTANT, WEIGHTS of all LETTERS that are 1, and of all PAIRS of which both are 1, together");
        Due.is("full, of 60", Pasts.alike(8, 60).energy(255), 2160);
        Due.is("full, of -60", Pasts.alike(8, -60).energy(255), -2160);
        Due.is("empty, of 60", Pasts.alike(8, 60).energy(0), 0);
        ColdGrid x = Pasts.of(1, 60);
        x.turn(1);
        Due.is("empty, with a constant", x.energy(0), 60);
        Due.is("full, with a constant", x.energy(1), 0);
        Due.is("one letter, its bound", Pasts.of(1, -60).energy(1), -60);
    }

    private static void bothOfAPair() {
        Due.of("5: of all PAIRS of which both are 1");
        ColdGrid x = Pasts.of(8);
        x.weigh(2, 7, 60);
        for (int state = 0; state < 256; state++) {
            Due.is("energy(" + state + ")", x.energy(state), (state & 132) == 132 ? 60 : 0);
        }
    }

    private static void sixLaws() {
        Due.of("6: LAWS (6 at most, numbered from 0); FULL");
        ColdGrid x = Pasts.of(8);
        for (int number = 0; number < 6; number++) {
            Due.is("law number " + number, x.law(255, number), number);
        }
        Due.is("a seventh", x.law(255, 6), ColdGrid.FULL);
        Due.is("a seventh again", x.law(255, 6), ColdGrid.FULL);
        Due.is("count(2)", x.count(2), 6);
        Twins.unchanged(Pasts::fullOfLaws, "law(255, 8)", y -> y.law(255, 8), ColdGrid.FULL);
        Twins.unchanged(Pasts::fullOfLaws, "law(1, 0)", y -> y.law(1, 0), ColdGrid.FULL);
        Due.is("unlaw()", x.unlaw(), 5);
        Due.is("room for a sixth", x.law(255, 6), 5);
        Due.is("none for a seventh", x.law(255, 6), ColdGrid.FULL);
    }

    private static void setsOfLaws() {
        Due.of("6: BAD: no set of LETTERS, or empty");
        for (int set : new int[] {0, 8, 9, 16, -1, LEAST, MOST}) {
            Twins.unchanged(Pasts::rich, "law(" + set + ", 0)", x -> x.law(set, 0), ColdGrid.BAD);
        }
        Due.is("law(1, 0)", Pasts.rich().law(1, 0), 2);
        Due.is("law(7, 0)", Pasts.rich().law(7, 0), 2);
    }

    private static void numbersOfLaws() {
        Due.of("6: k not 0 .. as many");
        for (int many = 1; many <= 8; many++) {
            // Sets of the last letters, so that their number differs from that of the greatest bit.
            int set = 255 & ~(255 >> many);
            Due.is("law of " + many + ", 0", Pasts.of(8).law(set, 0), 0);
            Due.is("law of " + many + ", all", Pasts.of(8).law(set, many), 0);
            for (int k : new int[] {-1, many + 1, LEAST, MOST}) {
                Twins.unchanged(() -> Pasts.of(8), "law of " + many + ", " + k, x -> x.law(set, k), ColdGrid.BAD);
            }
        }
    }

    private static void noLawToGo() {
        Due.of("7: The LAW told last goes: how many are left. NOT");
        Twins.unchanged(ColdGrid::new, "unlaw()", ColdGrid::unlaw, ColdGrid.NOT);
        Twins.unchanged(Pasts::beyondSixty, "unlaw()", ColdGrid::unlaw, ColdGrid.NOT);
        ColdGrid x = Pasts.of(3);
        for (int k = 0; k <= 3; k++) {
            x.law(7, k);
        }
        for (int left = 3; left >= 1; left--) {
            Due.is("unlaw()", x.unlaw(), left);
        }
        // Only the first is left, which asks for none of the three.
        Due.is("bestAt(1, 0)", x.bestAt(1, 0), 0);
        Due.is("many(1)", x.many(1), 1);
        Due.is("unlaw(), the last", x.unlaw(), 0);
        Due.is("unlaw(), none", x.unlaw(), ColdGrid.NOT);
        Due.is("law anew", x.law(1, 1), 0);
    }

    private static void pulls() {
        Due.of("8, 9, 10: a PULL p (0 .. 1000)");
        ColdGrid x = Pasts.of(1, 60);
        x.law(1, 1);
        Due.is("best(0)", x.best(0), 0);
        Due.is("best(1000)", x.best(1000), 60);
        Due.is("many(0)", x.many(0), 1);
        Due.is("many(1000)", x.many(1000), 1);
        Due.is("bestAt(0, 0)", x.bestAt(0, 0), 0);
        Due.is("bestAt(1000, 0)", x.bestAt(1000, 0), 1);
        for (int p : new int[] {-1, 1001, -2, 1002, LEAST, MOST}) {
            Twins.unchanged(Pasts::rich, "best(" + p + ")", y -> y.best(p), LEAST);
            Twins.unchanged(Pasts::rich, "many(" + p + ")", y -> y.many(p), ColdGrid.BAD);
            Twins.unchanged(Pasts::rich, "bestAt(" + p + ", 0)", y -> y.bestAt(p, 0), ColdGrid.BAD);
        }
    }

    private static void squares() {
        Due.of("p for each square of how far each LAW is missed (as many as are 1 there, less k)");
        ColdGrid above = Pasts.of(8, -60, -60, -60, -60, -60, -60, -60, -60);
        above.law(255, 0);
        // With m letters that are 1: 4 m m - 60 m, so that 7 and 8 are alike.
        Due.is("too many, best(4)", above.best(4), -224);
        Due.is("too many, many(4)", above.many(4), 9);
        Due.is("too many, best(3)", above.best(3), -288);
        ColdGrid below = Pasts.of(8, 60, 60, 60, 60, 60, 60, 60, 60);
        below.law(255, 8);
        Due.is("too few, best(4)", below.best(4), 256);
        Due.is("too few, many(4)", below.many(4), 9);
        Due.is("too few, best(3)", below.best(3), 192);
        ColdGrid part = Pasts.of(8, -60, -60, -60, -60, -60, -60, -60, -60);
        part.law(129, 0);
        Due.is("only letters of the set", part.best(1000), -360);
    }

    private static void eachLaw() {
        Due.of("each LAW is missed");
        ColdGrid x = Pasts.of(1, 60);
        for (int number = 1; number <= 6; number++) {
            x.law(1, 1);
            int p = 60 / number;
            Due.is(number + " like laws, best", x.best(p), 60);
            Due.is(number + " like laws, many", x.many(p), 2);
            Due.is(number + " like laws, pull()", x.pull(), p + 1);
        }
        ColdGrid odds = Pasts.of(8);
        for (int number = 0; number < 6; number++) {
            odds.law(255, number % 2 == 0 ? 0 : 8);
        }
        // Four letters that are 1 miss each of six laws by four.
        Due.is("laws at odds, best(1000)", odds.best(1000), 96000);
        Due.is("laws at odds, many(1000)", odds.many(1000), 70);
    }

    private static void withoutPull() {
        Due.of("With a PULL p (0 ..");
        ColdGrid x = Pasts.of(2, -1, 1);
        x.law(3, 0);
        x.law(2, 1);
        Due.is("best(0)", x.best(0), -1);
        Due.is("many(0)", x.many(0), 1);
        Due.is("bestAt(0, 0)", x.bestAt(0, 0), 1);
    }

    private static void bestStatesInRise() {
        Due.of("10: number k by p (as numbers rise). BAD: also no such one");
        ColdGrid all = Pasts.of(8);
        for (int k = 0; k < 256; k++) {
            Due.is("bestAt(0, " + k + ")", all.bestAt(0, k), k);
        }
        for (int k : new int[] {-1, 256, 257, LEAST, MOST}) {
            Twins.unchanged(() -> Pasts.of(8), "bestAt(0, " + k + ")", x -> x.bestAt(0, k), ColdGrid.BAD);
        }
        ColdGrid x = Pasts.of(3);
        x.law(7, 2);
        int[] due = {3, 5, 6};
        for (int k = 0; k < 3; k++) {
            Due.is("bestAt(1, " + k + ")", x.bestAt(1, k), due[k]);
        }
        Due.is("bestAt(1, 3)", x.bestAt(1, 3), ColdGrid.BAD);
        Due.is("bestAt(1, -1)", x.bestAt(1, -1), ColdGrid.BAD);
        ColdGrid one = Pasts.of(1, -1);
        Due.is("bestAt(0, 0) of one", one.bestAt(0, 0), 1);
        Due.is("bestAt(0, 1) of one", one.bestAt(0, 1), ColdGrid.BAD);
    }

    private static void leastPull() {
        Due.of("11: the least p by which all BEST STATES keep all LAWS");
        Due.is("no laws", Pasts.of(8).pull(), 0);
        ColdGrid x = Pasts.of(1, -1);
        x.law(1, 1);
        Due.is("the best keeps it", x.pull(), 0);
        x.weigh(0, 0, 0);
        Due.is("one of two best keeps it", x.pull(), 1);
        for (int w = 1; w <= 60; w++) {
            x.weigh(0, 0, w);
            Due.is("weight " + w + ", pull()", x.pull(), w + 1);
            Due.is("weight " + w + ", two best", x.many(w), 2);
            Due.is("weight " + w + ", one best", x.bestAt(w + 1, 0), 1);
        }
        ColdGrid far = Pasts.of(3, -20, -20, -20);
        far.law(7, 0);
        // One that is 1 asks for more than 20, two and three for less.
        Due.is("the greatest of all", far.pull(), 21);
        ColdGrid farthest = Pasts.alike(8, -60);
        for (int i = 0; i < 8; i++) {
            farthest.weigh(i, i, 0);
        }
        farthest.law(255, 0);
        // With m that are 1: m m p - 30 m (m - 1), so that all eight ask for more than 26, seven for less.
        Due.is("the farthest from the law", farthest.pull(), 27);
    }

    private static void leastPullAmongKeepers() {
        Due.of("11: BEST STATES are those that WEIGH least, among those that keep all LAWS, too");
        // Just one of three is 1: of 1, 2 and 4 the best has -5; beside it 3, 5 or 6 has -5, too, and misses by one.
        int[][] own = {{-5, 0, 5}, {-5, 5, 0}, {0, -5, 5}, {5, -5, 0}, {0, 5, -5}, {5, 0, -5}};
        for (int[] w : own) {
            ColdGrid x = Pasts.of(3, w);
            x.law(7, 1);
            Due.is("own " + w[0] + ", " + w[1] + ", " + w[2] + ", pull()", x.pull(), 1);
        }
        // Keepers have -9 and -5, state 3 has -14; then keepers have 9 and 5, state 0 has 0.
        int[][] six = {{-9, -5}, {-5, -9}, {9, 5}, {5, 9}};
        for (int[] w : six) {
            ColdGrid x = Pasts.of(2, w);
            x.law(3, 1);
            Due.is("own " + w[0] + ", " + w[1] + ", pull()", x.pull(), 6);
        }
        ColdGrid turned = Pasts.of(3, 5, -5, 0);
        turned.turn(1);
        turned.law(6, 1);
        turned.law(1, 1);
        // The constant is 5, letter 0 has -5: state 3 keeps both with -5, as has 7; states 1 and 5 have 0.
        Due.is("with a constant", turned.pull(), 1);
        turned.weigh(2, 2, -7);
        Due.is("5 keeps both with -7, 7 has -12", turned.pull(), 6);
    }

    private static void leastPullNone() {
        Due.of("11: none, if no STATE keeps them; NONE");
        ColdGrid x = Pasts.of(1);
        x.law(1, 0);
        Due.is("one law", x.pull(), 1);
        x.law(1, 1);
        Due.is("two at odds", x.pull(), ColdGrid.NONE);
        x.unlaw();
        Due.is("one again", x.pull(), 1);
        ColdGrid three = Pasts.of(3);
        three.law(3, 1);
        three.law(6, 1);
        Due.is("states 2 and 5 keep both", three.pull(), 1);
        three.law(5, 1);
        Due.is("no state keeps all three", three.pull(), ColdGrid.NONE);
    }

    private static void leastPullAtItsEnd() {
        Due.of("11: 1001: none up to 1000");
        // 21 keeps all laws; 234 is better by 960 and the weight of letter 4, and misses but one law, by one.
        int[][] due = {{41, 1001}, {40, 1001}, {39, 1000}, {38, 999}};
        for (int[] d : due) {
            ColdGrid x = nearlyBeyondPull(d[0]);
            Due.is("energy(21) - energy(234)", x.energy(21) - x.energy(234), 960 + d[0]);
            Due.is("by " + (960 + d[0]), x.pull(), d[1]);
            Due.is("by " + (960 + d[0]) + ", bestAt(1000, 0)", x.bestAt(1000, 0), d[0] == 41 ? 234 : 21);
            Due.is("by " + (960 + d[0]) + ", many(1000)", x.many(1000), d[0] == 40 ? 2 : 1);
        }
    }

    // Letters 0, 2 and 4 are what the laws ask for; letters 1, 3, 5, 6 and 7 are far better.
    private static ColdGrid nearlyBeyondPull(int fourth) {
        ColdGrid x = Pasts.of(8);
        for (int i = 0; i < 5; i++) {
            x.law(3 << i, 1);
        }
        x.law(1, 1);
        for (int i = 0; i < 8; i++) {
            for (int j = 0; j <= i; j++) {
                boolean wanted = i % 2 == 0 && i < 6 || j % 2 == 0 && j < 6;
                x.weigh(i, j, wanted ? 60 : -60);
            }
        }
        x.weigh(0, 0, -60);
        x.weigh(2, 2, -60);
        x.weigh(4, 4, fourth);
        return x;
    }
}
