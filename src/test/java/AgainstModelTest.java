/** Long runs of calls, drawn from a fixed series of numbers, in which the class must answer as the model does. */
public final class AgainstModelTest {
    /** An object is used for at most so many calls; the room left for one draw stays unused. */
    private static final int CALLS = 512;
    private static final int ONE_DRAW = 130;
    private static final String SIGNS = "!01abc()<>[]XFGU&|0123 ~dz";

    private final Dice dice;
    private final int run;
    private final CoalitionChecker x;
    private final Model m;
    private int left = CALLS;
    private int wrong = 0;
    private String call;

    private static final class Dice {
        private long state;

        Dice(long seed) {
            state = seed * 0x9E3779B97F4A7C15L + 1;
        }

        int below(int bound) {
            state = state * 6364136223846793005L + 1442695040888963407L;
            return (int) ((state >>> 33) % bound);
        }

        boolean oneIn(int n) {
            return below(n) == 0;
        }
    }

    private AgainstModelTest(int run) {
        this.run = run;
        dice = new Dice(run);
        int n = dice.oneIn(20) ? dice.below(11) - 3 : 1 + dice.below(4);
        x = new CoalitionChecker(n);
        m = new Model(n);
    }

    public static void main(String[] args) {
        int runs = args.length > 0 ? Integer.parseInt(args[0]) : 700;
        int first = args.length > 1 ? Integer.parseInt(args[1]) : 1;
        int wrong = 0;
        for (int run = first; run < first + runs; run++) {
            wrong += new AgainstModelTest(run).go();
        }
        System.out.println("AgainstModelTest: " + runs + " runs, " + wrong + " wrong answers");
        if (wrong != 0) {
            System.exit(1);
        }
    }

    private int go() {
        // the first runs fill the room for states, the others stay where the model is quick
        int most = run % 12 == 0 ? 12 : 1 + dice.below(6);
        for (int i = 0; i < most; i++) {
            addState();
        }
        if (dice.oneIn(3)) {
            ladder(most);
        } else {
            shape(most);
        }
        while (left > ONE_DRAW) {
            // the model seeks among all sets, so many states are asked less often
            one(most);
            if (wrong > 5) {
                break;
            }
        }
        return wrong;
    }

    private void shape(int most) {
        for (int i = 0; i < 3 * most; i++) {
            setActions();
        }
        for (int i = 0; i < 3 * most; i++) {
            setAll();
            setMove();
            if (dice.oneIn(2)) {
                label();
            }
        }
        if (dice.oneIn(3)) {
            fullMoves(most);
        }
    }

    /** Each state has few ways to the next one, so that goals are reached by long ways. */
    private void ladder(int most) {
        int quiet = dice.below(3);
        for (int state = 0; state + 1 < most; state++) {
            for (int agent = 0; agent < m.agents(); agent++) {
                int n = 1 + dice.below(3);
                call = "setActions(" + state + ", " + agent + ", " + n + ")";
                due(x.setActions(state, agent, n), m.setActions(state, agent, n));
            }
            int agent = dice.below(m.agents());
            int action = m.actions(state, agent) - 1;
            call = "setAll(" + state + ", " + agent + ", " + action + ", " + (state + 1) + ")";
            due(x.setAll(state, agent, action, state + 1), m.setAll(state, agent, action, state + 1));
            if (dice.oneIn(1 + quiet)) {
                setMove();
            }
            if (dice.oneIn(3)) {
                call = "label(" + state + ", 98, true)";
                due(x.label(state, 'b', true), m.label(state, 'b', true));
            }
        }
        call = "label(last, 97, true)";
        due(x.label(most - 1, 'a', true), m.label(most - 1, 'a', true));
        String[] goals = {"Fa", "G!a", "(!bUa)", "(bUa)", "Xa", "F<>Xa"};
        for (int i = 0; i < 3; i++) {
            StringBuilder made = new StringBuilder("<");
            addAgents(made, 5);
            made.append('>').append(goals[dice.below(goals.length)]);
            write(made.toString());
            sweep(i);
        }
    }

    /** All that is told of a formula in each state. */
    private void sweep(int f) {
        call = "enforced(" + f + ")";
        due(x.enforced(f), m.enforced(f));
        for (int s = 0; s < m.states(); s++) {
            call = "rank(" + f + ", " + s + ")";
            due(x.rank(f, s), m.rank(f, s));
            call = "strategy(" + f + ", " + s + ")";
            due(x.strategy(f, s), m.strategy(f, s));
            call = "smallest(" + f + ", " + s + ")";
            due(x.smallest(f, s), m.smallest(f, s));
        }
        call = "adopt(" + f + ")";
        due(x.adopt(f), m.adopt(f));
        call = "enforced(" + f + ")";
        due(x.enforced(f), m.enforced(f));
    }

    /** A full random table of moves for a few states. */
    private void fullMoves(int most) {
        for (int i = 0; i < 2; i++) {
            int state = dice.below(most);
            for (int move = 0; move < 81 && left > 150; move++) {
                if (m.next(state, move) >= 0) {
                    int next = dice.below(most);
                    call = "setMove(" + state + ", " + move + ", " + next + ")";
                    due(x.setMove(state, move, next), m.setMove(state, move, next));
                }
            }
        }
    }

    private void one(int most) {
        switch (dice.below(44)) {
            case 0:
                if (dice.oneIn(8) || m.states() < most && dice.oneIn(2)) {
                    addState();
                }
                break;
            case 1:
                if (dice.oneIn(3)) {
                    setActions();
                }
                break;
            case 2:
            case 3:
                label();
                break;
            case 4:
            case 5:
                setMove();
                break;
            case 6:
                setAll();
                break;
            case 7:
            case 8:
            case 9:
                force();
                break;
            case 10:
            case 11:
                reply();
                break;
            case 12:
                forced();
                break;
            case 13:
            case 14:
            case 15:
            case 16:
                writeFormula();
                break;
            case 17:
                writeNoise();
                break;
            case 18:
                if (dice.oneIn(6) || m.formulas() == 8) {
                    call = "forget()";
                    due(x.forget(), m.forget());
                }
                break;
            case 19:
            case 20:
            case 21:
                askEnforced();
                break;
            case 22:
            case 23:
                plan();
                break;
            case 24:
                undo();
                break;
            case 25:
                askClasses();
                break;
            case 26:
            case 27:
                askSmall();
                break;
            case 28:
                if (m.formulas() > 0 && dice.oneIn(3)) {
                    sweep(dice.below(m.formulas()));
                }
                break;
            default:
                askFormula();
                break;
        }
    }

    /** Takes two calls: the one that was asked, and the fingerprint, which nothing refused may change. */
    private void due(long got, long want) {
        left -= 2;
        if (got != want) {
            wrong++;
            System.out.println("run " + run + ", call " + (CALLS - left) + ": " + call
                    + " answered " + got + ", the model " + want);
        }
        if (x.fingerprint() != m.fingerprint() && wrong < 5) {
            wrong++;
            System.out.println("run " + run + ": another fingerprint after " + call);
        }
    }

    // ---- arguments, a few of them wrong

    private int strange() {
        int[] values = {-1, Integer.MIN_VALUE, Integer.MAX_VALUE, 12, 13, 4, 16, 81, 100000, -7};
        return values[dice.below(values.length)];
    }

    private int upTo(int bound) {
        if (dice.oneIn(40)) {
            return strange();
        }
        return dice.below(bound + (dice.oneIn(20) ? 1 : 0));
    }

    private int state() {
        return upTo(Math.max(1, m.states()));
    }

    private int agent() {
        return upTo(m.agents());
    }

    private int coalition() {
        return upTo(1 << m.agents());
    }

    private int move() {
        int state = dice.below(Math.max(1, m.states()));
        int move = 0;
        int weight = 1;
        for (int i = 0; i < m.agents(); i++) {
            move += dice.below(Math.max(1, m.actions(state, i))) * weight;
            weight *= 3;
        }
        return dice.oneIn(6) ? upTo(81) : move;
    }

    private int set() {
        return upTo(1 << m.states());
    }

    private int formula() {
        return upTo(Math.max(1, m.formulas()));
    }

    // ---- calls

    private void addState() {
        call = "addState()";
        due(x.addState(), m.addState());
    }

    private void setActions() {
        int state = state();
        int agent = agent();
        int n = dice.oneIn(8) ? upTo(5) : 1 + dice.below(3);
        call = "setActions(" + state + ", " + agent + ", " + n + ")";
        due(x.setActions(state, agent, n), m.setActions(state, agent, n));
    }

    private void label() {
        int state = state();
        int letter = dice.oneIn(15) ? strange() : dice.oneIn(15) ? 96 + dice.below(28) : 97 + dice.below(3);
        boolean on = dice.oneIn(2);
        call = "label(" + state + ", " + letter + ", " + on + ")";
        due(x.label(state, letter, on), m.label(state, letter, on));
    }

    private void setMove() {
        int state = state();
        int move = move();
        int next = state();
        call = "setMove(" + state + ", " + move + ", " + next + ")";
        due(x.setMove(state, move, next), m.setMove(state, move, next));
    }

    private void setAll() {
        int state = state();
        int agent = agent();
        int action = upTo(3);
        int next = state();
        call = "setAll(" + state + ", " + agent + ", " + action + ", " + next + ")";
        due(x.setAll(state, agent, action, next), m.setAll(state, agent, action, next));
    }

    private void plan() {
        int state = state();
        int agent = agent();
        int action = upTo(3);
        call = "plan(" + state + ", " + agent + ", " + action + ")";
        due(x.plan(state, agent, action), m.plan(state, agent, action));
    }

    private void undo() {
        int times = dice.oneIn(4) ? 5 : 1;
        for (int i = 0; i < times; i++) {
            call = "undo()";
            due(x.undo(), m.undo());
        }
    }

    private void force() {
        int coalition = coalition();
        int state = state();
        int set = dice.oneIn(2) ? set() | set() : set();
        call = "force(" + coalition + ", " + state + ", " + set + ")";
        due(x.force(coalition, state, set), m.force(coalition, state, set));
    }

    private void reply() {
        int coalition = coalition();
        int state = state();
        int joint = 0;
        int move = move();
        int weight = 1;
        for (int i = 0; i < 4; i++) {
            joint += (coalition >> i & 1) == 1 ? move / weight % 3 * weight : 0;
            weight *= 3;
        }
        int action = dice.oneIn(8) ? move : joint;
        int set = set();
        call = "reply(" + coalition + ", " + state + ", " + action + ", " + set + ")";
        due(x.reply(coalition, state, action, set), m.reply(coalition, state, action, set));
    }

    private void forced() {
        int coalition = coalition();
        int state = state();
        call = "forced(" + coalition + ", " + state + ")";
        due(x.forced(coalition, state), m.forced(coalition, state));
    }

    private void type(int c) {
        call = "type(" + c + ")";
        due(x.type(c), m.type(c));
    }

    private void read(String text) {
        call = "read() of " + text;
        due(x.read(), m.read());
        if (!dice.oneIn(4)) {
            call = "clear()";
            due(x.clear(), m.clear());
        }
    }

    private void writeFormula() {
        StringBuilder made = new StringBuilder();
        if (dice.oneIn(2)) {
            addGoal(made, dice.below(3), true);
        } else {
            addFormula(made, dice.below(4));
        }
        if (dice.oneIn(12)) {
            made.setCharAt(dice.below(made.length()), SIGNS.charAt(dice.below(SIGNS.length())));
        }
        if (dice.oneIn(20)) {
            made.setLength(dice.below(made.length() + 1));
        }
        write(made.toString());
    }

    private void write(String text) {
        for (int i = 0; i < text.length() && left > 12; i++) {
            type(text.charAt(i));
        }
        read(text);
    }

    private void writeNoise() {
        int length = dice.oneIn(10) ? 63 : dice.below(5);
        char only = "!(<[".charAt(dice.below(4));
        boolean same = dice.oneIn(2);
        for (int i = 0; i < length && left > 12; i++) {
            type(same ? only : dice.oneIn(20) ? strange() : SIGNS.charAt(dice.below(SIGNS.length())));
        }
        read("noise");
        call = "clear()";
        due(x.clear(), m.clear());
    }

    private void addFormula(StringBuilder to, int depth) {
        addConjunction(to, depth);
        while (dice.oneIn(4)) {
            to.append('|');
            addConjunction(to, depth);
        }
    }

    private void addConjunction(StringBuilder to, int depth) {
        addUnit(to, depth);
        while (dice.oneIn(4)) {
            to.append('&');
            addUnit(to, depth);
        }
    }

    private void addUnit(StringBuilder to, int depth) {
        int kind = depth == 0 ? dice.below(3) : dice.below(12);
        if (kind < 2) {
            to.append("abca0bc1".charAt(dice.below(8)));
        } else if (kind < 4) {
            to.append('!');
            addUnit(to, Math.max(0, depth - 1));
        } else if (kind == 4) {
            to.append('(');
            addFormula(to, depth - 1);
            to.append(')');
        } else {
            addGoal(to, depth - 1, dice.oneIn(2));
        }
    }

    private void addGoal(StringBuilder to, int depth, boolean strong) {
        to.append(strong ? '<' : '[');
        addAgents(to, 3);
        to.append(strong ? '>' : ']');
        int goal = dice.below(5);
        if (goal < 3) {
            to.append("XFG".charAt(goal));
            addUnit(to, depth);
        } else {
            to.append('(');
            addFormula(to, depth);
            to.append('U');
            addFormula(to, depth);
            to.append(')');
        }
    }

    private void addAgents(StringBuilder to, int rest) {
        for (int i = 0; i < m.agents(); i++) {
            if (!dice.oneIn(rest)) {
                to.append(i);
            }
        }
    }

    private void askEnforced() {
        int formula = formula();
        if (dice.oneIn(3)) {
            call = "adopt(" + formula + ")";
            due(x.adopt(formula), m.adopt(formula));
        }
        call = "enforced(" + formula + ")";
        due(x.enforced(formula), m.enforced(formula));
    }

    private void askClasses() {
        call = "classes()";
        due(x.classes(), m.classes());
        int state = state();
        call = "classOf(" + state + ")";
        due(x.classOf(state), m.classOf(state));
    }

    private void askSmall() {
        int state = state();
        int agent = agent();
        int move = move();
        switch (dice.below(8)) {
            case 0:
                call = "agents()";
                due(x.agents(), m.agents());
                break;
            case 1:
                call = "states()";
                due(x.states(), m.states());
                break;
            case 2:
                call = "actions(" + state + ", " + agent + ")";
                due(x.actions(state, agent), m.actions(state, agent));
                break;
            case 3:
                call = "labels(" + state + ")";
                due(x.labels(state), m.labels(state));
                break;
            case 4:
                call = "next(" + state + ", " + move + ")";
                due(x.next(state, move), m.next(state, move));
                break;
            case 5:
                call = "moves(" + state + ")";
                due(x.moves(state), m.moves(state));
                break;
            case 6:
                call = "planned(" + state + ", " + agent + ")";
                due(x.planned(state, agent), m.planned(state, agent));
                break;
            default:
                call = "formulas()";
                due(x.formulas(), m.formulas());
                break;
        }
    }

    private void askFormula() {
        int formula = formula();
        int state = state();
        switch (dice.below(8)) {
            case 0:
                call = "parts(" + formula + ")";
                due(x.parts(formula), m.parts(formula));
                break;
            case 1:
                int part = upTo(Math.max(1, m.parts(formula)));
                call = "where(" + formula + ", " + part + ")";
                due(x.where(formula, part), m.where(formula, part));
                break;
            case 2:
                call = "holds(" + formula + ", " + state + ")";
                due(x.holds(formula, state), m.holds(formula, state));
                break;
            case 3:
                int other = formula();
                call = "counterexample(" + formula + ", " + other + ")";
                due(x.counterexample(formula, other), m.counterexample(formula, other));
                break;
            case 4:
                call = "rank(" + formula + ", " + state + ")";
                due(x.rank(formula, state), m.rank(formula, state));
                break;
            case 5:
                call = "strategy(" + formula + ", " + state + ")";
                due(x.strategy(formula, state), m.strategy(formula, state));
                break;
            case 6:
                int rounds = dice.oneIn(12) ? 195 + dice.below(10) : upTo(20);
                int seed = dice.oneIn(4) ? strange() : dice.below(Integer.MAX_VALUE) - dice.below(Integer.MAX_VALUE);
                call = "play(" + formula + ", " + state + ", " + rounds + ", " + seed + ")";
                due(x.play(formula, state, rounds, seed), m.play(formula, state, rounds, seed));
                break;
            default:
                call = "smallest(" + formula + ", " + state + ")";
                due(x.smallest(formula, state), m.smallest(formula, state));
                break;
        }
    }
}
