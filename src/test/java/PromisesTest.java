/** For each promise of the document, in its order: ordinary inputs, edges, and wrong inputs. */
public final class PromisesTest {
    private static final int BAD = -1;
    private static final int FULL = -2;
    private static final int FORM = -3;
    private static final int NONE = -9;
    private static final int LOW = Integer.MIN_VALUE;
    private static final int HIGH = Integer.MAX_VALUE;

    private static int wrong = 0;
    private static int asked = 0;
    private static String promise = "";

    private static void due(String what, long got, long want) {
        asked++;
        if (got != want) {
            wrong++;
            System.out.println("promise " + promise + ": " + what + " answered " + got + ", due is " + want);
        }
    }

    public static void main(String[] args) {
        newObject();
        agents();
        addState();
        states();
        setActions();
        actions();
        label();
        labels();
        setMove();
        setAll();
        next();
        moves();
        force();
        reply();
        forced();
        type();
        clear();
        read();
        errorPositions();
        forget();
        formulas();
        parts();
        where();
        whereBoxes();
        holds();
        counterexample();
        rank();
        strategy();
        plan();
        adopt();
        planned();
        enforced();
        play();
        smallest();
        classes();
        classOf();
        undo();
        fingerprint();
        System.out.println("PromisesTest: " + asked + " answers asked, " + wrong + " wrong");
        if (wrong != 0) {
            System.exit(1);
        }
    }

    // ---- helpers

    private static CoalitionChecker with(int agents, int states) {
        CoalitionChecker x = new CoalitionChecker(agents);
        for (int i = 0; i < states; i++) {
            x.addState();
        }
        return x;
    }

    private static int read(CoalitionChecker x, String text) {
        x.clear();
        for (int i = 0; i < text.length(); i++) {
            x.type(text.charAt(i));
        }
        return x.read();
    }

    /** Two agents with two actions each in state 0, which lead to 1 if they agree, otherwise to 2 = g. */
    private static CoalitionChecker game() {
        CoalitionChecker x = with(2, 3);
        x.label(2, 'g', true);
        x.setActions(0, 0, 2);
        x.setActions(0, 1, 2);
        x.setMove(0, 0, 1);
        x.setMove(0, 1, 2);
        x.setMove(0, 3, 2);
        x.setMove(0, 4, 1);
        return x;
    }

    /** 0 -> 1 -> 2 -> 3 = g, each step by the last action of agent 0; 4 stays; agent 1 only watches. */
    private static CoalitionChecker ladder() {
        CoalitionChecker x = with(2, 5);
        for (int s = 0; s < 3; s++) {
            x.setActions(s, 0, 2 + (s & 1));
            x.setAll(s, 0, 1 + (s & 1), s + 1);
        }
        x.label(3, 'g', true);
        return x;
    }

    // ---- structure

    private static void newObject() {
        promise = "1";
        due("states", new CoalitionChecker(2).states(), 0);
        due("formulas", new CoalitionChecker(2).formulas(), 0);
        due("undo", new CoalitionChecker(2).undo(), NONE);
        due("clear", new CoalitionChecker(2).clear(), 0);
        due("agents of 0", new CoalitionChecker(0).agents(), 1);
        due("agents of -1", new CoalitionChecker(-1).agents(), 1);
        due("agents of the lowest", new CoalitionChecker(LOW).agents(), 1);
        due("agents of 5", new CoalitionChecker(5).agents(), 4);
        due("agents of the highest", new CoalitionChecker(HIGH).agents(), 4);
        due("BAD", CoalitionChecker.BAD, BAD);
        due("FULL", CoalitionChecker.FULL, FULL);
        due("FORM", CoalitionChecker.FORM, FORM);
        due("NONE", CoalitionChecker.NONE, NONE);
    }

    private static void agents() {
        promise = "2";
        for (int n = 1; n <= 4; n++) {
            due("agents", new CoalitionChecker(n).agents(), n);
        }
    }

    private static void addState() {
        promise = "3";
        CoalitionChecker x = new CoalitionChecker(4);
        for (int i = 0; i < 12; i++) {
            due("addState", x.addState(), i);
            due("its actions", x.actions(i, 3), 1);
            due("its labels", x.labels(i), 0);
            due("its move", x.next(i, 0), i);
            due("its plan", x.planned(i, 0), 0);
        }
        due("the 13th", x.addState(), FULL);
        due("states", x.states(), 12);
        due("it is an edit, the refused one is none", x.undo(), 3);
        due("states after undo", x.states(), 11);

        CoalitionChecker y = with(2, 1);
        y.addState();
        y.label(1, 'q', true);
        y.setActions(1, 1, 3);
        y.plan(1, 1, 2);
        for (int i = 0; i < 4; i++) {
            y.undo();
        }
        due("a state anew", y.addState(), 1);
        due("has no labels", y.labels(1), 0);
        due("has one action", y.actions(1, 1), 1);
        due("has no move", y.next(1, 3), BAD);
        due("has no plan", y.planned(1, 1), 0);
    }

    private static void states() {
        promise = "4";
        CoalitionChecker x = new CoalitionChecker(1);
        due("none", x.states(), 0);
        x.addState();
        x.addState();
        due("two", x.states(), 2);
        x.undo();
        due("after undo", x.states(), 1);
    }

    private static void setActions() {
        promise = "5";
        CoalitionChecker x = with(2, 2);
        due("from 1", x.setActions(0, 1, 3), 1);
        due("from 3", x.setActions(0, 1, 2), 3);
        due("from 2", x.setActions(0, 1, 2), 2);
        due("now", x.actions(0, 1), 2);
        due("the other agent", x.actions(0, 0), 1);
        due("the other state", x.actions(1, 1), 1);
        x.setMove(0, 3, 1);
        x.setMove(0, 0, 1);
        due("a move gone", x.next(0, 6), BAD);
        due("same number", x.setActions(0, 1, 2), 2);
        due("move 3 is back", x.next(0, 3), 0);
        due("move 0 is back", x.next(0, 0), 0);
        x.setMove(0, 3, 1);
        x.setActions(0, 0, 3);
        due("move 3 is back by the other's actions", x.next(0, 3), 0);
        due("a new move", x.next(0, 5), 0);
        due("no state", x.setActions(2, 0, 1), BAD);
        due("no state", x.setActions(-1, 0, 1), BAD);
        due("no agent", x.setActions(0, 2, 1), BAD);
        due("no agent", x.setActions(0, -1, 1), BAD);
        due("n 0", x.setActions(0, 0, 0), BAD);
        due("n 4", x.setActions(0, 0, 4), BAD);
        due("low", x.setActions(LOW, LOW, LOW), BAD);
        due("high", x.setActions(HIGH, HIGH, HIGH), BAD);
        due("an error changes nothing", x.actions(0, 0), 3);
        x.undo();
        due("it is an edit", x.actions(0, 0), 1);
        due("with its moves", x.next(0, 3), 1);
    }

    private static void actions() {
        promise = "6";
        CoalitionChecker x = with(3, 2);
        x.setActions(1, 2, 3);
        due("initially", x.actions(0, 0), 1);
        due("set", x.actions(1, 2), 3);
        due("no state", x.actions(2, 0), BAD);
        due("no agent", x.actions(0, 3), BAD);
        due("low", x.actions(LOW, 0), BAD);
        due("high", x.actions(0, HIGH), BAD);
        due("-1", x.actions(-1, -1), BAD);
    }

    private static void label() {
        promise = "7";
        CoalitionChecker x = with(1, 2);
        due("a", x.label(0, 'a', true), 0);
        due("a again", x.label(0, 'a', true), 1);
        due("z", x.label(0, 'z', true), 0);
        due("of 0", x.labels(0), 1 | 1 << 25);
        due("of 1", x.labels(1), 0);
        due("a off", x.label(0, 'a', false), 1);
        due("a off again", x.label(0, 'a', false), 0);
        due("z stays", x.labels(0), 1 << 25);
        due("below a", x.label(0, 'a' - 1, true), BAD);
        due("above z", x.label(0, 'z' + 1, true), BAD);
        due("A", x.label(0, 'A', true), BAD);
        due("no state", x.label(2, 'a', true), BAD);
        due("no state", x.label(-1, 'a', true), BAD);
        due("low", x.label(0, LOW, false), BAD);
        due("an edit even if nothing changes", x.undo(), 3);
        due("the same labels", x.labels(0), 1 << 25);
        x.undo();
        due("a is back", x.labels(0), 1 | 1 << 25);
    }

    private static void labels() {
        promise = "8";
        CoalitionChecker x = with(1, 12);
        x.label(11, 'c', true);
        due("c", x.labels(11), 4);
        due("none", x.labels(0), 0);
        due("no state", x.labels(12), BAD);
        due("no state", x.labels(-1), BAD);
        due("high", x.labels(HIGH), BAD);
    }

    private static void setMove() {
        promise = "9";
        CoalitionChecker x = with(2, 3);
        x.setActions(1, 1, 3);
        due("from itself", x.setMove(1, 6, 2), 1);
        due("from 2", x.setMove(1, 6, 0), 2);
        due("now", x.next(1, 6), 0);
        due("another", x.next(1, 3), 1);
        due("not possible", x.setMove(1, 1, 0), BAD);
        due("not possible", x.setMove(1, 9, 0), BAD);
        due("not possible", x.setMove(0, 6, 0), BAD);
        due("-1", x.setMove(1, -1, 0), BAD);
        due("81", x.setMove(1, 81, 0), BAD);
        due("low", x.setMove(1, LOW, 0), BAD);
        due("high", x.setMove(1, HIGH, 0), BAD);
        due("no state", x.setMove(3, 0, 0), BAD);
        due("no state", x.setMove(-1, 0, 0), BAD);
        due("no next", x.setMove(1, 0, 3), BAD);
        due("no next", x.setMove(1, 0, -1), BAD);
        due("edits", x.undo(), 3);
        due("before", x.next(1, 6), 2);
        CoalitionChecker y = with(4, 2);
        for (int agent = 0; agent < 4; agent++) {
            y.setActions(0, agent, 3);
        }
        due("the last move", y.setMove(0, 80, 1), 0);
        due("now", y.next(0, 80), 1);
        due("beyond", y.setMove(0, 81, 1), BAD);
    }

    private static void setAll() {
        promise = "10";
        CoalitionChecker x = with(2, 3);
        x.setActions(0, 0, 2);
        x.setActions(0, 1, 3);
        due("three moves", x.setAll(0, 0, 1, 2), 3);
        due("1", x.next(0, 1), 2);
        due("4", x.next(0, 4), 2);
        due("7", x.next(0, 7), 2);
        due("0", x.next(0, 0), 0);
        due("again", x.setAll(0, 0, 1, 2), 0);
        due("one of two led elsewhere", x.setAll(0, 1, 2, 2), 1);
        due("8 is no move", x.next(0, 8), BAD);
        due("to itself", x.setAll(0, 1, 0, 0), 1);
        due("action 2", x.setAll(0, 0, 2, 1), BAD);
        due("action -1", x.setAll(0, 0, -1, 1), BAD);
        due("action 3", x.setAll(0, 1, 3, 1), BAD);
        due("no state", x.setAll(3, 0, 0, 1), BAD);
        due("no agent", x.setAll(0, 2, 0, 1), BAD);
        due("no agent", x.setAll(0, -1, 0, 1), BAD);
        due("no next", x.setAll(0, 0, 0, 3), BAD);
        due("no next", x.setAll(0, 0, 0, -1), BAD);
        due("low", x.setAll(LOW, LOW, LOW, LOW), BAD);
        due("high", x.setAll(HIGH, HIGH, HIGH, HIGH), BAD);
        due("it is an edit", x.undo(), 3);
        due("before", x.next(0, 1), 2);
    }

    private static void next() {
        promise = "11";
        CoalitionChecker x = game();
        due("0", x.next(0, 0), 1);
        due("3", x.next(0, 3), 2);
        due("of 2", x.next(2, 0), 2);
        due("not possible", x.next(0, 2), BAD);
        due("not possible", x.next(1, 1), BAD);
        due("9", x.next(0, 9), BAD);
        due("-1", x.next(0, -1), BAD);
        due("no state", x.next(3, 0), BAD);
        due("no state", x.next(-1, 0), BAD);
        due("low", x.next(LOW, LOW), BAD);
        due("high", x.next(HIGH, HIGH), BAD);
        due("a move of agents that are not there", with(1, 1).next(0, 3), BAD);
    }

    private static void moves() {
        promise = "12";
        CoalitionChecker x = with(4, 2);
        due("one", x.moves(0), 1);
        x.setActions(0, 0, 3);
        x.setActions(0, 2, 2);
        due("six", x.moves(0), 6);
        x.setActions(0, 1, 3);
        x.setActions(0, 2, 3);
        x.setActions(0, 3, 3);
        due("all", x.moves(0), 81);
        due("the other", x.moves(1), 1);
        due("no state", x.moves(2), BAD);
        due("no state", x.moves(-1), BAD);
        due("high", x.moves(HIGH), BAD);
    }

    // ---- one step

    private static void force() {
        promise = "13";
        CoalitionChecker x = game();
        due("agent 0 alone", x.force(1, 0, 4), NONE);
        due("both", x.force(3, 0, 4), 1);
        due("both, the other set", x.force(3, 0, 2), 0);
        due("nobody, all", x.force(0, 0, 6), 0);
        due("nobody, one", x.force(0, 0, 2), NONE);
        due("the empty set", x.force(3, 0, 0), NONE);
        x.setAll(0, 1, 1, 2);
        due("agent 1 by its action 1", x.force(2, 0, 4), 3);
        due("all states", x.force(2, 0, 7), 0);
        due("no coalition", x.force(4, 0, 7), BAD);
        due("no coalition", x.force(-1, 0, 7), BAD);
        due("no state", x.force(1, 3, 7), BAD);
        due("no state", x.force(1, -1, 7), BAD);
        due("a bit without a state", x.force(1, 0, 8), BAD);
        due("the sign bit", x.force(1, 0, LOW), BAD);
        due("-1", x.force(1, 0, -1), BAD);
        CoalitionChecker y = with(4, 12);
        due("twelve states", y.force(15, 11, 1 << 11), 0);
        due("the 13th", y.force(15, 11, 1 << 12), BAD);
        due("no state at all", new CoalitionChecker(1).force(0, 0, 0), BAD);
    }

    private static void reply() {
        promise = "14";
        CoalitionChecker x = game();
        due("to 0, out of {1}", x.reply(1, 0, 0, 2), 3);
        due("to 0, out of {2}", x.reply(1, 0, 0, 4), 0);
        due("to 1, out of {2}", x.reply(1, 0, 1, 4), 4);
        due("to 1, out of {1, 2}", x.reply(1, 0, 1, 6), NONE);
        due("to agent 1's 3, out of {2}", x.reply(2, 0, 3, 4), 4);
        due("to nobody", x.reply(0, 0, 0, 2), 1);
        due("to all", x.reply(3, 0, 4, 2), NONE);
        due("to all", x.reply(3, 0, 4, 0), 4);
        due("an action it has not", x.reply(1, 0, 2, 2), BAD);
        due("an action of another", x.reply(1, 0, 3, 2), BAD);
        due("an action of both", x.reply(1, 0, 4, 2), BAD);
        due("an action of nobody", x.reply(0, 0, 1, 2), BAD);
        due("-1", x.reply(1, 0, -1, 2), BAD);
        due("81", x.reply(1, 0, 81, 2), BAD);
        due("high", x.reply(3, 0, HIGH, 2), BAD);
        due("low", x.reply(3, 0, LOW, 2), BAD);
        due("no coalition", x.reply(4, 0, 0, 2), BAD);
        due("no coalition", x.reply(-1, 0, 0, 2), BAD);
        due("no state", x.reply(1, 3, 0, 2), BAD);
        due("a bit without a state", x.reply(1, 0, 0, 8), BAD);
        due("the sign bit", x.reply(1, 0, 0, LOW), BAD);
    }

    private static void forced() {
        promise = "15";
        CoalitionChecker x = game();
        due("agent 0", x.forced(1, 0), 2);
        due("both", x.forced(3, 0), 6);
        due("nobody", x.forced(0, 0), 2);
        due("in 1", x.forced(0, 1), 4);
        due("no coalition", x.forced(4, 0), BAD);
        due("no coalition", x.forced(-1, 0), BAD);
        due("no state", x.forced(1, 3), BAD);
        due("no state", x.forced(1, -1), BAD);
        CoalitionChecker y = with(1, 12);
        due("of 4096 sets", y.forced(1, 0), 2048);
        y.setActions(0, 0, 3);
        y.setMove(0, 1, 1);
        y.setMove(0, 2, 11);
        due("of three ways", y.forced(1, 0), 4096 - 512);
        due("of none", y.forced(0, 0), 512);
    }

    // ---- formulas

    private static void type() {
        promise = "16";
        CoalitionChecker x = new CoalitionChecker(1);
        due("31", x.type(31), BAD);
        due("127", x.type(127), BAD);
        due("-1", x.type(-1), BAD);
        due("low", x.type(LOW), BAD);
        due("high", x.type(HIGH), BAD);
        due("32", x.type(32), 1);
        due("126", x.type(126), 2);
        for (int i = 3; i <= 60; i++) {
            due("type", x.type('a'), i);
        }
        due("the 61st", x.type('a'), FULL);
        due("a bad one first", x.type(127), BAD);
        due("nothing changed", x.clear(), 60);
    }

    private static void clear() {
        promise = "17";
        CoalitionChecker x = new CoalitionChecker(1);
        due("empty", x.clear(), 0);
        x.type('a');
        x.type('(');
        due("two", x.clear(), 2);
        due("empty again", x.clear(), 0);
        due("from the start", x.type('b'), 1);
    }

    private static void read() {
        promise = "18";
        CoalitionChecker x = with(2, 1);
        due("a", read(x, "a"), 0);
        due("the text is empty", x.clear(), 0);
        due("a&", read(x, "a&"), -102);
        due("the text stays", x.clear(), 2);
        due("no formula was kept", x.formulas(), 1);
        String[] good = {"!0", "(((a)))", "<>X1", "<01>Fa&b", "[1](aU(b|c))", "<0>(a|bUc&d)", "!<1>G!z"};
        for (int i = 0; i < good.length; i++) {
            due(good[i], read(x, good[i]), i + 1);
        }
        due("the ninth", read(x, "a"), FULL);
        due("the text stays", x.clear(), 1);
        due("FULL before the error of the form", read(x, ")"), FULL);
        CoalitionChecker y = new CoalitionChecker(1);
        StringBuilder deep = new StringBuilder();
        for (int i = 0; i < 59; i++) {
            deep.append('!');
        }
        due("59 times not", read(y, deep + "a"), 0);
        due("its parts", y.parts(0), 60);
        String open = "(".repeat(29);
        due("29 brackets", read(y, open + "0" + ")".repeat(29)), 1);
        due("reading is no edit", y.undo(), NONE);
    }

    private static void error(int agents, String text, int position) {
        due("read of " + text, read(new CoalitionChecker(agents), text), -100 - position);
    }

    private static void errorPositions() {
        promise = "18";
        error(2, "", 0);
        error(2, " a", 0);
        error(2, "a ", 1);
        error(2, "A", 0);
        error(2, "2", 0);
        error(2, "ab", 1);
        error(2, "a)", 1);
        error(2, "a!", 1);
        error(2, "aUb", 1);
        error(2, "(aUb)", 2);
        error(2, "(a", 2);
        error(2, "()", 1);
        error(2, "a&", 2);
        error(2, "a&&b", 2);
        error(2, "a|", 2);
        error(2, "a|)", 2);
        error(2, "!", 1);
        error(2, "!)", 1);
        error(2, "<", 1);
        error(2, "<2>Xa", 1);
        error(2, "<00>Xa", 2);
        error(2, "<10>Xa", 2);
        error(2, "<01", 3);
        error(2, "<01]Xa", 3);
        error(2, "[01>Xa", 3);
        error(2, "<0a", 2);
        error(2, "<0>", 3);
        error(2, "<0>a", 3);
        error(2, "<0>U", 3);
        error(2, "<0>X", 4);
        error(2, "<0>(a)", 5);
        error(2, "<0>(a", 5);
        error(2, "<0>((aUb)Uc)", 6);
        error(2, "<0>(aUb", 7);
        error(2, "<0>(aUbUc)", 7);
        error(2, "<0>(aU)", 6);
        error(2, "<0>(Ub)", 4);
        error(2, "<0>Xa b", 5);
        error(2, "<0>XX", 4);
        error(2, "((<0>G(aUb)))", 8);
        error(4, "<0123>F", 7);
        error(4, "<4", 1);
        error(4, "<03>(!(a&b)|cU[2]F", 18);
        error(1, "<1>Fa", 1);
        error(1, "<0", 2);
        error(1, "~", 0);
        error(1, "(".repeat(60), 60);
        error(1, "!".repeat(60), 60);
        error(1, "<0>(".repeat(15), 60);
        error(1, "a&".repeat(29) + "a)", 59);
    }

    private static void forget() {
        promise = "19";
        CoalitionChecker x = with(1, 1);
        due("none", x.forget(), 0);
        read(x, "a");
        read(x, "b");
        x.type('c');
        due("two", x.forget(), 2);
        due("none again", x.forget(), 0);
        due("no formula", x.holds(0, 0), BAD);
        due("the text stays", x.read(), 0);
        due("no edit", x.undo(), 0);
    }

    private static void formulas() {
        promise = "20";
        CoalitionChecker x = with(1, 1);
        due("none", x.formulas(), 0);
        for (int i = 1; i <= 8; i++) {
            read(x, "1");
            due("formulas", x.formulas(), i);
        }
        read(x, "1");
        due("not nine", x.formulas(), 8);
        x.undo();
        due("formulas stay", x.formulas(), 8);
    }

    private static void parts() {
        promise = "21";
        CoalitionChecker x = new CoalitionChecker(2);
        String[] texts = {"a", "((a))", "a&b&c", "a|b&c", "!!<0>Xa", "[](aUb)", "(a&b)|!(a&b)", "<0>F<1>G(0|1)"};
        int[] counts = {1, 1, 5, 5, 4, 3, 8, 5};
        for (int i = 0; i < texts.length; i++) {
            due("no formula yet", x.parts(i), BAD);
            read(x, texts[i]);
            due(texts[i], x.parts(i), counts[i]);
        }
        due("-1", x.parts(-1), BAD);
        due("8", x.parts(8), BAD);
        due("low", x.parts(LOW), BAD);
        due("high", x.parts(HIGH), BAD);
    }

    private static void wheres(CoalitionChecker x, String text, int... sets) {
        x.forget();
        due("read of " + text, read(x, text), 0);
        due("parts of " + text, x.parts(0), sets.length);
        for (int i = 0; i < sets.length; i++) {
            due(text + " part " + i, x.where(0, i), sets[i]);
        }
        due(text + " beyond", x.where(0, sets.length), BAD);
    }

    private static void where() {
        promise = "22";
        CoalitionChecker x = with(1, 4);
        x.label(1, 'a', true);
        x.label(3, 'a', true);
        x.label(2, 'b', true);
        x.label(3, 'b', true);
        wheres(x, "0", 0);
        wheres(x, "1", 15);
        wheres(x, "a", 10);
        wheres(x, "!a", 10, 5);
        wheres(x, "a&b", 10, 12, 8);
        wheres(x, "a|b", 10, 12, 14);
        wheres(x, "c", 0);
        wheres(x, "a|b&0|1", 10, 12, 0, 0, 10, 15, 15);
        wheres(x, "!(a|b)&!0", 10, 12, 14, 1, 0, 15, 1);
        wheres(x, "!a&b", 10, 5, 12, 4);
        wheres(x, "a&(b|1)", 10, 12, 15, 15, 10);
        due("-1", x.where(0, -1), BAD);
        due("no formula", x.where(1, 0), BAD);
        due("no formula", x.where(-1, 0), BAD);
        due("high", x.where(HIGH, HIGH), BAD);
        due("low", x.where(LOW, LOW), BAD);

        CoalitionChecker y = ladder();
        y.label(0, 'p', true);
        y.label(2, 'p', true);
        wheres(y, "<0>Xg", 8, 12);
        wheres(y, "<1>Xg", 8, 8);
        wheres(y, "<0>Fg", 8, 15);
        wheres(y, "<1>Fg", 8, 8);
        wheres(y, "<>Fg", 8, 8);
        wheres(y, "<0>G!g", 8, 23, 23);
        wheres(y, "<>G!g", 8, 23, 16);
        wheres(y, "<1>Gp", 5, 0);
        wheres(y, "<0>Gp", 5, 5);
        wheres(y, "<0>(pUg)", 5, 8, 12);
        wheres(y, "<01>(!gUg)", 8, 23, 8, 15);
        wheres(y, "<0>X<0>Xg", 8, 12, 14);
        y.label(3, 'g', false);
        wheres(y, "<0>Fg", 0, 0);
        wheres(new CoalitionChecker(1), "<0>G1", 0, 0);
    }

    private static void whereBoxes() {
        promise = "22";
        CoalitionChecker y = ladder();
        y.label(0, 'p', true);
        y.label(2, 'p', true);
        wheres(y, "[]Xg", 8, 12);
        wheres(y, "[1]Xg", 8, 12);
        wheres(y, "[0]Xg", 8, 8);
        wheres(y, "[]Fg", 8, 15);
        wheres(y, "[1]Fg", 8, 15);
        wheres(y, "[0]Fg", 8, 8);
        wheres(y, "[]G!g", 8, 23, 23);
        wheres(y, "[0]G!g", 8, 23, 16);
        wheres(y, "[](pUg)", 5, 8, 12);
        wheres(y, "[1](!gUg)", 8, 23, 8, 15);
        wheres(y, "[0](!gUg)", 8, 23, 8, 8);
        wheres(y, "[01](1Ug)", 31, 8, 8);
        y.plan(0, 0, 1);
        y.plan(1, 0, 2);
        y.plan(2, 0, 1);
        wheres(y, "[0]X!g", 8, 23, 19);
        wheres(y, "[0]Fg", 8, 8);
        wheres(y, "[0]F!g", 8, 23, 23);
        wheres(y, "[0](!gUg)", 8, 23, 8, 8);
        wheres(y, "<0>X!g", 8, 23, 23);
        wheres(y, "<0>G!g", 8, 23, 23);
    }

    private static void holds() {
        promise = "23";
        CoalitionChecker x = game();
        read(x, "<01>Xg");
        due("0", x.holds(0, 0), 1);
        due("1", x.holds(0, 1), 0);
        due("2", x.holds(0, 2), 1);
        due("no state", x.holds(0, 3), BAD);
        due("no state", x.holds(0, -1), BAD);
        due("no formula", x.holds(1, 0), BAD);
        due("no formula", x.holds(-1, 0), BAD);
        x.label(2, 'g', false);
        due("for the structure as it is", x.holds(0, 0), 0);
        x.undo();
        due("and as it was", x.holds(0, 0), 1);
    }

    private static void counterexample() {
        promise = "24";
        CoalitionChecker x = with(1, 4);
        x.label(1, 'a', true);
        x.label(2, 'a', true);
        x.label(2, 'b', true);
        x.label(3, 'b', true);
        read(x, "a");
        read(x, "b");
        read(x, "a|b");
        due("a, b", x.counterexample(0, 1), 1);
        due("b, a", x.counterexample(1, 0), 3);
        due("a, a|b", x.counterexample(0, 2), NONE);
        due("a|b, a", x.counterexample(2, 0), 3);
        due("itself", x.counterexample(1, 1), NONE);
        due("no first", x.counterexample(3, 0), BAD);
        due("no second", x.counterexample(0, 3), BAD);
        due("neither", x.counterexample(-1, LOW), BAD);
    }

    // ---- strategies

    private static void rank() {
        promise = "25";
        CoalitionChecker x = ladder();
        x.label(1, 'p', true);
        x.label(2, 'p', true);
        read(x, "<0>Fg");
        read(x, "(<0>(pUg))");
        read(x, "<0>G1");
        read(x, "<0>Xg");
        read(x, "[0]Fg");
        read(x, "!<0>Fg");
        read(x, "[](1Ug)");
        int[] ranks = {3, 2, 1, 0, NONE};
        int[] untilRanks = {NONE, 2, 1, 0, NONE};
        for (int s = 0; s < 5; s++) {
            due("F in " + s, x.rank(0, s), ranks[s]);
            due("U in " + s, x.rank(1, s), untilRanks[s]);
            for (int f = 2; f < 7; f++) {
                due("formula " + f, x.rank(f, s), FORM);
            }
        }
        due("no state", x.rank(0, 5), BAD);
        due("no state before the form", x.rank(2, 5), BAD);
        due("no state", x.rank(0, -1), BAD);
        due("no formula", x.rank(7, 0), BAD);
        due("no formula", x.rank(-1, 0), BAD);
    }

    private static void strategy() {
        promise = "26";
        CoalitionChecker x = ladder();
        x.label(1, 'p', true);
        x.label(2, 'p', true);
        read(x, "<0>Fg");
        read(x, "<01>(pUg)");
        read(x, "<0>Xg");
        read(x, "<0>Gp");
        read(x, "[0]Gp");
        read(x, "<0>Fg&1");
        int[] f = {1, 2, 1, 0, 0};
        int[] u = {0, 2, 1, 0, 0};
        int[] n = {0, 0, 1, 0, 0};
        for (int s = 0; s < 5; s++) {
            due("F in " + s, x.strategy(0, s), f[s]);
            due("U in " + s, x.strategy(1, s), u[s]);
            due("X in " + s, x.strategy(2, s), n[s]);
            due("G in " + s, x.strategy(3, s), 0);
            due("a box", x.strategy(4, s), FORM);
            due("an and", x.strategy(5, s), FORM);
        }
        x.setActions(1, 0, 2);
        x.setMove(1, 0, 0);
        x.setMove(1, 1, 1);
        due("G by action 1", x.strategy(3, 1), 1);
        due("no state", x.strategy(0, 5), BAD);
        due("no state before the form", x.strategy(4, 5), BAD);
        due("no formula", x.strategy(6, 0), BAD);
        due("no formula", x.strategy(LOW, 0), BAD);

        CoalitionChecker y = with(3, 3);
        y.setActions(0, 0, 3);
        y.setActions(0, 2, 3);
        y.setMove(0, 2 + 9, 1);
        y.setMove(0, 1 + 18, 1);
        y.label(1, 'g', true);
        read(y, "<02>Fg");
        due("the least of two", y.strategy(0, 0), 11);

        CoalitionChecker z = with(1, 2);
        z.label(0, 'g', true);
        z.setActions(0, 0, 2);
        z.setMove(0, 0, 1);
        read(z, "<0>Fg");
        read(z, "<0>Gg");
        due("in rank 0 no action is needed", z.strategy(0, 0), 0);
        due("G needs it", z.strategy(1, 0), 1);
    }

    private static void plan() {
        promise = "27";
        CoalitionChecker x = with(2, 2);
        due("from 0", x.plan(0, 1, 2), 0);
        due("from 2", x.plan(0, 1, 1), 2);
        due("from 1", x.plan(0, 1, 1), 1);
        due("to 0", x.plan(0, 1, 0), 1);
        due("from 0 again", x.plan(0, 1, 1), 0);
        due("another agent", x.planned(0, 0), 0);
        due("another state", x.planned(1, 1), 0);
        due("3", x.plan(0, 1, 3), BAD);
        due("-1", x.plan(0, 1, -1), BAD);
        due("no state", x.plan(2, 1, 0), BAD);
        due("no agent", x.plan(0, 2, 0), BAD);
        due("low", x.plan(LOW, LOW, LOW), BAD);
        due("high", x.plan(HIGH, HIGH, HIGH), BAD);
        due("five edits of four", x.undo(), 3);
        due("as it was", x.planned(0, 1), 0);
        x.undo();
        x.undo();
        due("and before", x.planned(0, 1), 1);
        x.undo();
        due("and at first", x.planned(0, 1), 2);
    }

    private static void adopt() {
        promise = "28";
        CoalitionChecker x = ladder();
        read(x, "<0>Fg");
        read(x, "[0]Fg");
        read(x, "<0>Fg|0");
        read(x, "<1>Xg");
        x.plan(0, 1, 2);
        x.plan(4, 0, 2);
        x.plan(2, 0, 1);
        due("three change", x.adopt(0), 3);
        int[] told = {1, 2, 1, 0, 0};
        for (int s = 0; s < 5; s++) {
            due("planned in " + s, x.planned(s, 0), told[s]);
        }
        due("others stay", x.planned(0, 1), 2);
        due("nothing changes", x.adopt(0), 0);
        due("an edit all the same", x.undo(), 3);
        due("a box", x.adopt(1), FORM);
        due("an or", x.adopt(2), FORM);
        due("no formula", x.adopt(4), BAD);
        due("no formula", x.adopt(-1), BAD);
        due("errors are no edits", x.undo(), 2);
        due("back", x.planned(4, 0), 2);
        due("the other's strategy", x.adopt(3), 1);
        due("agent 1", x.planned(0, 1), 0);
        due("agent 0 stays", x.planned(4, 0), 2);
    }

    private static void planned() {
        promise = "29";
        CoalitionChecker x = with(4, 12);
        x.plan(11, 3, 2);
        due("set", x.planned(11, 3), 2);
        due("an action that the agent has not", x.actions(11, 3), 1);
        due("initially", x.planned(0, 0), 0);
        due("no state", x.planned(12, 0), BAD);
        due("no state", x.planned(-1, 0), BAD);
        due("no agent", x.planned(0, 4), BAD);
        due("no agent", x.planned(0, -1), BAD);
    }

    private static void enforced() {
        promise = "30";
        CoalitionChecker x = ladder();
        x.label(2, 'p', true);
        read(x, "<0>Fg");
        read(x, "<0>Xg");
        read(x, "<0>G!g");
        read(x, "<0>(pUg)");
        read(x, "[0]Xg");
        read(x, "!1");
        due("F", x.enforced(0), 8);
        due("X", x.enforced(1), 8);
        due("G", x.enforced(2), 16 + 7);
        due("U", x.enforced(3), 8);
        x.plan(2, 0, 1);
        due("F, a step", x.enforced(0), 12);
        due("X, a step", x.enforced(1), 12);
        due("G, a step", x.enforced(2), 16 + 3);
        due("U, a step", x.enforced(3), 12);
        x.plan(1, 0, 2);
        due("F, two steps", x.enforced(0), 14);
        due("U, not two steps", x.enforced(3), 12);
        x.plan(0, 0, 2);
        due("an action that it has not counts as 0", x.enforced(0), 14);
        x.plan(0, 0, 1);
        due("F, three steps", x.enforced(0), 15);
        due("a box", x.enforced(4), FORM);
        due("a not", x.enforced(5), FORM);
        due("no formula", x.enforced(6), BAD);
        due("no formula", x.enforced(-1), BAD);

        CoalitionChecker y = game();
        read(y, "<01>X<01>Xg");
        y.setActions(1, 0, 2);
        y.setMove(1, 1, 2);
        due("the operand needs no plan", y.where(0, 1), 7);
        due("but the outermost part does", y.enforced(0), 7);
        read(y, "<01>F<0>Xg");
        due("F of an operand that holds", y.enforced(1), 7);
    }

    private static int step(int seed) {
        return (int) ((1103515245L * seed + 12345L) & 2147483647L);
    }

    private static void play() {
        promise = "31";
        CoalitionChecker x = with(2, 3);
        x.setActions(0, 0, 2);
        x.setActions(0, 1, 3);
        x.setMove(0, 0, 1);
        x.setMove(0, 3, 2);
        x.setMove(0, 1, 2);
        x.setMove(0, 4, 1);
        read(x, "<0>F0");
        read(x, "<01>F0");
        read(x, "<>F0");
        read(x, "[0]F0");
        int[] seeds = {0, 1, 2, 3, 4, 5, 7, 100, -1, -5, LOW, HIGH, 12345, 99999999};
        int[] byReply = {1, 2, 0};
        int[] byOtherReply = {2, 1, 0};
        int[] byMove = {1, 2, 2, 1, 0, 0};
        for (int seed : seeds) {
            x.plan(0, 0, 0);
            due("the reply to 0, seed " + seed, x.play(0, 0, 1, seed), byReply[step(seed) % 3]);
            due("no reply", x.play(1, 0, 1, seed), 1);
            due("all move", x.play(2, 0, 1, seed), byMove[step(seed) % 6]);
            int second = step(seed) % 3 == 2 ? byReply[step(step(seed)) % 3] : byReply[step(seed) % 3];
            due("two rounds", x.play(0, 0, 2, seed), second);
            due("no round", x.play(0, 0, 0, seed), 0);
            x.plan(0, 0, 1);
            due("the reply to 1, seed " + seed, x.play(0, 0, 1, seed), byOtherReply[step(seed) % 3]);
            x.plan(0, 0, 2);
            due("an action that it has not", x.play(0, 0, 1, seed), byReply[step(seed) % 3]);
        }
        read(x, "<1>F0");
        x.plan(0, 1, 1);
        for (int seed : seeds) {
            due("agent 1 keeps to 1, seed " + seed, x.play(4, 0, 1, seed), 2 - step(seed) % 2);
        }
        due("it stays there", x.play(0, 2, 200, 1), 2);
        due("201", x.play(0, 0, 201, 1), BAD);
        due("-1", x.play(0, 0, -1, 1), BAD);
        due("no state", x.play(0, 3, 1, 1), BAD);
        due("no state", x.play(0, -1, 1, 1), BAD);
        due("no formula", x.play(5, 0, 1, 1), BAD);
        due("a box", x.play(3, 0, 1, 1), FORM);
        due("rounds before the form", x.play(3, 0, 201, 1), BAD);
        due("low", x.play(LOW, LOW, LOW, LOW), BAD);
    }

    private static void smallest() {
        promise = "32";
        CoalitionChecker x = game();
        read(x, "<0>Fg");
        read(x, "<>G1");
        read(x, "<01>F0");
        read(x, "[01]Fg");
        read(x, "!<0>Fg");
        due("both are needed", x.smallest(0, 0), 3);
        due("nobody is needed", x.smallest(0, 2), 0);
        due("nobody can", x.smallest(0, 1), NONE);
        due("always", x.smallest(1, 0), 0);
        due("never", x.smallest(2, 2), NONE);
        due("a box", x.smallest(3, 0), FORM);
        due("a not", x.smallest(4, 0), FORM);
        due("no state", x.smallest(0, 3), BAD);
        due("no state before the form", x.smallest(3, 3), BAD);
        due("no formula", x.smallest(5, 0), BAD);
        due("no formula", x.smallest(-1, 0), BAD);

        CoalitionChecker y = with(3, 2);
        y.label(1, 'g', true);
        for (int agent = 0; agent < 3; agent++) {
            y.setActions(0, agent, 2);
        }
        read(y, "<>Xg");
        y.setAll(0, 2, 1, 1);
        y.setMove(0, 4, 1);
        due("one agent of a larger number before two", y.smallest(0, 0), 4);
        y.setActions(0, 0, 2);
        y.setMove(0, 10, 1);
        y.setMove(0, 13, 1);
        y.setMove(0, 12, 1);
        due("the smaller number of two", y.smallest(0, 0), 5);
        y.setMove(0, 13, 0);
        due("all but 1 still lose to it", y.smallest(0, 0), 7);

        CoalitionChecker z = with(2, 3);
        z.label(2, 'g', true);
        z.setMove(0, 0, 1);
        z.setActions(1, 1, 2);
        z.setMove(1, 3, 2);
        read(z, "<0>X<1>Xg");
        due("the inner coalition stays", z.smallest(0, 0), 0);
    }

    // ---- likeness

    private static void classes() {
        promise = "33";
        due("no state", new CoalitionChecker(2).classes(), 0);
        due("all alike", with(2, 12).classes(), 1);
        CoalitionChecker x = with(2, 12);
        for (int s = 0; s < 12; s++) {
            x.label(s, 'a' + s, true);
        }
        due("all apart", x.classes(), 12);

        CoalitionChecker y = ladder();
        due("ladder", y.classes(), 5);
        y.label(3, 'g', false);
        due("without a label", y.classes(), 1);

        CoalitionChecker z = with(2, 4);
        z.label(2, 'g', true);
        z.setActions(0, 0, 2);
        z.setMove(0, 1, 2);
        z.setActions(1, 1, 2);
        z.setMove(1, 3, 2);
        due("another agent can", z.classes(), 4);
        z.setActions(1, 1, 1);
        z.setActions(1, 0, 3);
        z.setMove(1, 2, 2);
        due("by another action, with another number of actions", z.classes(), 3);
        z.setMove(1, 1, 3);
        due("another class can be forced", z.classes(), 4);
    }

    private static void classOf() {
        promise = "34";
        CoalitionChecker x = with(1, 5);
        x.label(0, 'a', true);
        x.label(3, 'a', true);
        x.label(4, 'b', true);
        int[] numbers = {0, 1, 1, 0, 2};
        for (int s = 0; s < 5; s++) {
            due("classOf " + s, x.classOf(s), numbers[s]);
        }
        x.setMove(3, 0, 1);
        int[] later = {0, 1, 1, 2, 3};
        for (int s = 0; s < 5; s++) {
            due("classOf after a move " + s, x.classOf(s), later[s]);
        }
        due("no state", x.classOf(5), BAD);
        due("no state", x.classOf(-1), BAD);
        due("high", x.classOf(HIGH), BAD);

        CoalitionChecker y = with(2, 4);
        y.label(2, 'g', true);
        y.label(3, 'h', true);
        for (int s = 0; s < 2; s++) {
            y.setActions(s, 0, 2);
            y.setActions(s, 1, 2);
        }
        int[] one = {2, 3, 3, 2};
        int[] other = {2, 3, 2, 3};
        int[] moves = {0, 1, 3, 4};
        for (int i = 0; i < 4; i++) {
            y.setMove(0, moves[i], one[i]);
            y.setMove(1, moves[i], other[i]);
        }
        due("a single agent can force it in 1 only", y.classOf(1), 1);
        due("and so", y.classOf(3), 3);
    }

    // ---- history

    private static void undo() {
        promise = "35";
        CoalitionChecker x = new CoalitionChecker(1);
        due("none", x.undo(), NONE);
        x.addState();
        due("one", x.undo(), 0);
        due("none", x.undo(), NONE);
        for (int i = 0; i < 6; i++) {
            x.addState();
        }
        for (int i = 3; i >= 0; i--) {
            due("undo", x.undo(), i);
            due("states", x.states(), 2 + i);
        }
        due("the oldest were dropped", x.undo(), NONE);
        due("states", x.states(), 2);
        long[] prints = new long[4];
        read(x, "<0>Fg");
        x.type('a');
        prints[0] = x.fingerprint();
        x.label(0, 'g', true);
        prints[1] = x.fingerprint();
        x.setActions(1, 0, 3);
        prints[2] = x.fingerprint();
        x.setAll(1, 0, 2, 0);
        prints[3] = x.fingerprint();
        x.adopt(0);
        due("adopted", x.planned(1, 0), 2);
        for (int i = 3; i >= 0; i--) {
            due("undo", x.undo(), i);
            due("fingerprint", x.fingerprint(), prints[i]);
        }
        due("formulas stay", x.formulas(), 1);
        due("the text stays", x.clear(), 1);
        x.label(0, 'g', true);
        due("history goes on", x.undo(), 0);
    }

    private static long mixed(long... numbers) {
        long sum = 41;
        for (long number : numbers) {
            sum = 31 * sum + number;
        }
        return sum;
    }

    private static void fingerprint() {
        promise = "36";
        CoalitionChecker x = new CoalitionChecker(2);
        due("new", x.fingerprint(), mixed(0, 0));
        x.addState();
        due("a state", x.fingerprint(), mixed(1, 0, 1, 0, 1, 0, 0, 0));
        x.addState();
        x.label(0, 'c', true);
        x.setActions(1, 1, 3);
        x.setMove(1, 6, 0);
        x.plan(1, 0, 2);
        read(x, "a");
        due("more", x.fingerprint(), mixed(2, 4, 1, 0, 1, 0, 0, 0, 1, 2, 3, 0, 1, 1, 0, 1));
        x.type('a');
        due("the text does not count", x.fingerprint(), mixed(2, 4, 1, 0, 1, 0, 0, 0, 1, 2, 3, 0, 1, 1, 0, 1));
    }
}
