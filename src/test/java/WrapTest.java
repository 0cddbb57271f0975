import java.math.BigInteger;

/** The numbers that the document lets wrap around, worked out a second time without a limit. */
public final class WrapTest {
    private static final int LOW = Integer.MIN_VALUE;
    private static final int HIGH = Integer.MAX_VALUE;
    private static final BigInteger FACTOR = BigInteger.valueOf(1103515245L);
    private static final BigInteger SUMMAND = BigInteger.valueOf(12345L);
    private static final BigInteger HALF = BigInteger.ONE.shiftLeft(31);
    private static final BigInteger LONGS = BigInteger.ONE.shiftLeft(64);

    private static final Asks ASKS = new Asks("WrapTest");

    private WrapTest() {
    }

    public static void main(String[] args) {
        firstSteps();
        seedBeforeTheFirstRound();
        edgesOfTheSeed();
        manyRounds();
        oneReply();
        movesThatAreNotThere();
        fingerprints();
        ASKS.finish();
    }

    private static void by(String sentence) {
        ASKS.by(sentence);
    }

    private static void due(String what, long got, long want) {
        ASKS.due(what, got, want);
    }

    // ---- the seed of play

    /** Without a limit first, then without the sign bit and all above it. */
    private static int step(int seed) {
        return FACTOR.multiply(BigInteger.valueOf(seed)).add(SUMMAND).mod(HALF).intValueExact();
    }

    /** The seed, not negative, after which one step gives the value. */
    private static int seedFor(int value) {
        return BigInteger.valueOf(value).subtract(SUMMAND).multiply(FACTOR.modInverse(HALF)).mod(HALF).intValueExact();
    }

    /** In state 0 the move with the place p among the 81 leads to p / 12 (or to p mod 12), where it stays. */
    private static CoalitionChecker wheel(boolean high) {
        CoalitionChecker x = Boards.with(4, 12);
        Boards.allActions(x, 0, 3);
        for (int place = 0; place < 81; place++) {
            x.setMove(0, place, high ? place / 12 : place % 12);
        }
        Boards.read(x, "<>X1");
        return x;
    }

    private static void firstSteps() {
        by("31: the seed becomes 1103515245 * seed + 12345, with int overflow, and its sign bit is removed");
        int[][] steps = {{0, 12345}, {1, 1103527590}, {2, 59559187}, {-1, 1043980748}, {HIGH, 1043980748},
            {LOW, 12345}, {-2, 2087949151}};
        CoalitionChecker high = wheel(true);
        CoalitionChecker low = wheel(false);
        for (int[] pair : steps) {
            due("the test's own step from " + pair[0], step(pair[0]), pair[1]);
            due("the place of seed " + pair[0], 12 * high.play(0, 0, 1, pair[0]) + low.play(0, 0, 1, pair[0]), pair[1] % 81);
        }
    }

    private static void seedBeforeTheFirstRound() {
        by("31: so is it before the first round (this whole step)");
        CoalitionChecker x = Boards.with(1, 3);
        x.setActions(0, 0, 3);
        x.setMove(0, 1, 1);
        x.setMove(0, 2, 2);
        Boards.read(x, "<>X1");
        for (int seed = -40; seed <= 40; seed++) {
            due("seed " + seed, x.play(0, 0, 1, seed), step(seed) % 3);
        }
    }

    private static void edgesOfTheSeed() {
        by("31: the sign bit is removed (seed & 2147483647), then modulo");
        CoalitionChecker high = wheel(true);
        CoalitionChecker low = wheel(false);
        int[] values = {0, 1, 80, 81, 82, HIGH, HIGH - 1, HIGH - 80, HIGH - 81, 1 << 30, (1 << 30) - 1};
        for (int value : values) {
            int seed = seedFor(value);
            due("the test's own seed for " + value, step(seed), value);
            due("seed " + seed, 12 * high.play(0, 0, 1, seed) + low.play(0, 0, 1, seed), value % 81);
            int other = seed + LOW;
            due("seed " + other, 12 * high.play(0, 0, 1, other) + low.play(0, 0, 1, other), value % 81);
        }
    }

    private static void manyRounds() {
        by("31: after each round the seed becomes ... with int overflow");
        CoalitionChecker x = Boards.with(2, 6);
        int[] table = new int[6 * 9];
        int[] planned = {0, 1, 2, 0, 1, 2, 2, 0, 1, 2, 1, 0};
        for (int s = 0; s < 6; s++) {
            Boards.allActions(x, s, 3);
            x.plan(s, 0, planned[2 * s]);
            x.plan(s, 1, planned[2 * s + 1]);
            for (int move = 0; move < 9; move++) {
                table[9 * s + move] = (5 * s + 7 * move * move + 3 * move + 1) % 6;
                x.setMove(s, move, table[9 * s + move]);
            }
        }
        Boards.readAll(x, "<>X1", "<0>X1", "<1>X1", "<01>X1");
        int[] seeds = {0, 1, -1, LOW, HIGH, 65535, -65536, 20000003};
        int[] lengths = {0, 1, 2, 3, 50, 199, 200};
        for (int seed : seeds) {
            for (int rounds : lengths) {
                for (int coalition = 0; coalition < 4; coalition++) {
                    due(rounds + " rounds of " + coalition + " from seed " + seed,
                            x.play(coalition, seed & 3, rounds, seed),
                            played(table, planned, coalition, seed & 3, rounds, seed));
                }
            }
        }
    }

    private static int played(int[] table, int[] planned, int coalition, int state, int rounds, int seed) {
        int now = state;
        int dice = step(seed);
        for (int round = 0; round < rounds; round++) {
            int first = planned[2 * now];
            int second = planned[2 * now + 1];
            if (coalition == 0) {
                first = dice % 9 % 3;
                second = dice % 9 / 3;
            } else if (coalition == 1) {
                second = dice % 3;
            } else if (coalition == 2) {
                first = dice % 3;
            }
            now = table[9 * now + first + 3 * second];
            dice = step(dice);
        }
        return now;
    }

    private static void oneReply() {
        by("31: modulo the number of their possible joint actions, be it 1");
        CoalitionChecker x = Boards.lastMove(4);
        for (int agent = 0; agent < 4; agent++) {
            x.plan(0, agent, 2);
        }
        Boards.readAll(x, "<0123>X1", "<>X1");
        for (int seed : new int[] {0, 1, -1, LOW, HIGH}) {
            due("no others, seed " + seed, x.play(0, 0, 1, seed), 1);
            due("all others, one action each, seed " + seed, x.play(1, 1, 1, seed), 1);
        }
    }

    private static void movesThatAreNotThere() {
        by("31: counted from 0 in ascending order of their numbers");
        CoalitionChecker x = Boards.with(4, 6);
        int[] counts = {2, 3, 1, 2};
        for (int agent = 0; agent < 4; agent++) {
            x.setActions(0, agent, counts[agent]);
        }
        int[] replies = {0, 1, 27, 28};
        for (int reply : replies) {
            x.setMove(0, 6 + reply, 1 + reply % 27 + 2 * (reply / 27));
        }
        x.plan(0, 1, 2);
        Boards.read(x, "<12>X1");
        for (int value = 0; value < 8; value++) {
            due("place " + value, x.play(0, 0, 1, seedFor(value)), 1 + value % 4);
        }
    }

    // ---- the fingerprint

    private static long mixed(int... numbers) {
        BigInteger sum = BigInteger.valueOf(41);
        for (int number : numbers) {
            sum = sum.multiply(BigInteger.valueOf(31)).add(BigInteger.valueOf(number));
        }
        BigInteger rest = sum.mod(LONGS);
        return rest.testBit(63) ? rest.subtract(LONGS).longValueExact() : rest.longValueExact();
    }

    private static void fingerprints() {
        by("36: 31 times itself plus the number, in long arithmetic with overflow");
        for (int n = 1; n <= 4; n++) {
            CoalitionChecker x = new CoalitionChecker(n);
            boolean wrapped = false;
            for (int states = 0; states <= 12; states++) {
                long want = mixed(numbers(n, states));
                due("of " + n + " agents and " + states + " states", x.fingerprint(), want);
                wrapped |= want < 0;
                x.addState();
                x.label(states, 'a', true);
                x.label(states, 'z', true);
                Boards.allActions(x, states, 3);
                x.plan(states, 0, 2);
            }
            due("one of them has the sign bit", wrapped ? 1 : 0, 1);
        }
        CoalitionChecker y = Boards.with(1, 2);
        due("the last that does not wrap", y.fingerprint(), mixed(2, 0, 1, 0, 0, 0, 1, 0, 1, 0));
        y.addState();
        due("the first that wraps", y.fingerprint(), mixed(3, 0, 1, 0, 0, 0, 1, 0, 1, 0, 1, 0, 2, 0));
    }

    private static int[] numbers(int n, int states) {
        int moves = Boards.power(n);
        int[] row = new int[2 + states * (1 + 2 * n + moves)];
        int at = 0;
        row[at++] = states;
        for (int s = 0; s < states; s++) {
            row[at++] = 1 | 1 << 25;
            for (int agent = 0; agent < n; agent++) {
                row[at++] = 3;
                row[at++] = agent == 0 ? 2 : 0;
            }
            for (int move = 0; move < moves; move++) {
                row[at++] = s;
            }
        }
        return row;
    }
}
