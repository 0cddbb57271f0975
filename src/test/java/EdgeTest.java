/**
 * The edges that the promises name, a method for each promise and a line "by" for each sentence: numbers
 * too small and too large, nothing there yet, no room for more, and which of two errors is told.
 */
public final class EdgeTest {
    private static final int BAD = -1;
    private static final int FULL = -2;
    private static final int FORM = -3;
    private static final int NONE = -9;
    private static final int LOW = Integer.MIN_VALUE;
    private static final int HIGH = Integer.MAX_VALUE;
    /** 60 characters, which are a formula of 60 parts. */
    private static final String LONGEST = "!a" + "&a".repeat(29);

    private static final Asks ASKS = new Asks("EdgeTest");

    private EdgeTest() {
    }

    public static void main(String[] args) {
        newObject();
        agents();
        addState();
        states();
        setActions();
        actions();
        label();
        labels();
        setMove();
        setAll();
        next();
        moves();
        force();
        reply();
        forced();
        type();
        clear();
        read();
        forget();
        formulas();
        parts();
        where();
        holds();
        counterexample();
        rank();
        strategy();
        plan();
        adopt();
        planned();
        enforced();
        play();
        smallest();
        classes();
        classOf();
        undo();
        fingerprint();
        ASKS.finish();
    }

    private static void by(String sentence) {
        ASKS.by(sentence);
    }

    private static void due(String what, long got, long want) {
        ASKS.due(what, got, want);
    }

    // ---- structure

    private static void newObject() {
        by("1: a value less than 1 means 1");
        for (int n : new int[] {0, -1, LOW, 1}) {
            CoalitionChecker x = Boards.with(n, 1);
            due("agents of " + n, x.agents(), 1);
            due("its agent 0", x.actions(0, 0), 1);
            due("its agent 1", x.actions(0, 1), BAD);
            due("its coalition 1", x.force(1, 0, 1), 0);
            due("its coalition 2", x.force(2, 0, 1), BAD);
            due("a formula with agent 0", Boards.read(x, "<0>X1"), 0);
            due("a formula with agent 1", Boards.read(x, "<1>X1"), -101);
        }
        by("1: a value greater than 4 means 4");
        for (int n : new int[] {5, 6, HIGH, 4}) {
            CoalitionChecker x = Boards.lastMove(n);
            due("agents of " + n, x.agents(), 4);
            due("its agent 3", x.actions(0, 3), 3);
            due("its agent 4", x.actions(0, 4), BAD);
            due("its last move", x.next(0, 80), 1);
            due("its coalition 15", x.force(15, 0, 2), 80);
            due("its coalition 16", x.force(16, 0, 2), BAD);
            due("a formula with agent 3", Boards.read(x, "<0123>X1"), 0);
            due("a formula with agent 4", Boards.read(x, "<4>X1"), -101);
        }
        by("1: a structure without states");
        CoalitionChecker x = new CoalitionChecker(4);
        due("states", x.states(), 0);
        due("formulas", x.formulas(), 0);
        due("classes", x.classes(), 0);
        due("undo", x.undo(), NONE);
        due("fingerprint", x.fingerprint(), 41L * 31 * 31);
        due("clear", x.clear(), 0);
    }

    private static void agents() {
        by("2: returns n");
        for (int n = 1; n <= 4; n++) {
            due("agents", new CoalitionChecker(n).agents(), n);
            CoalitionChecker x = Boards.chain(n, 12);
            x.undo();
            due("agents of a full structure", x.agents(), n);
        }
    }

    private static void addState() {
        CoalitionChecker x = new CoalitionChecker(4);
        by("3: returns its number");
        for (int i = 0; i < 12; i++) {
            due("addState", x.addState(), i);
        }
        by("3: FULL if there are 12 states");
        due("the 13th", x.addState(), FULL);
        due("the 13th again", x.addState(), FULL);
        due("states", x.states(), 12);
        due("the 13th is none", x.labels(12), BAD);
        by("3: this is an edit; FULL is none");
        due("undo", x.undo(), 3);
        due("there is room again", x.addState(), 11);
        due("and then none", x.addState(), FULL);
        by("3: a new state has nothing of one that was undone");
        x.label(11, 'z', true);
        x.undo();
        x.undo();
        due("the number", x.addState(), 11);
        due("labels", x.labels(11), 0);
    }

    private static void states() {
        by("4: the number of states");
        CoalitionChecker x = new CoalitionChecker(2);
        due("nothing there yet", x.states(), 0);
        for (int i = 1; i <= 12; i++) {
            x.addState();
            due("states", x.states(), i);
        }
        x.addState();
        due("no room for more", x.states(), 12);
    }

    private static void setActions() {
        CoalitionChecker x = Boards.with(3, 2);
        by("5: n is 1 to 3");
        due("1", x.setActions(1, 2, 1), 1);
        due("2", x.setActions(1, 2, 2), 1);
        due("3", x.setActions(1, 2, 3), 2);
        ASKS.range("n", n -> x.setActions(1, 2, n), 1, 3);
        due("0", x.setActions(1, 2, 0), BAD);
        due("4", x.setActions(1, 2, 4), BAD);
        by("5: BAD if there is no such state");
        ASKS.range("state", state -> x.setActions(state, 2, 2), 0, 1);
        by("5: BAD if there is no such agent");
        ASKS.range("agent", agent -> x.setActions(0, agent, 2), 0, 2);
        due("the agents of the next state stay", x.actions(1, 0), 1);
        by("5: BAD where nothing is there yet");
        due("no state", new CoalitionChecker(3).setActions(0, 0, 1), BAD);
        by("5: all moves of this state lead back to it then");
        CoalitionChecker y = Boards.with(2, 3);
        Boards.allActions(y, 1, 2);
        Boards.allActions(y, 0, 2);
        for (int move : new int[] {0, 1, 3, 4}) {
            y.setMove(1, move, 2);
            y.setMove(0, move, 2);
        }
        due("the same number", y.setActions(1, 0, 2), 2);
        for (int move : new int[] {0, 1, 3, 4}) {
            due("move " + move, y.next(1, move), 1);
            due("another state's move " + move, y.next(0, move), 2);
        }
        y.setMove(1, 4, 0);
        due("fewer", y.setActions(1, 0, 1), 2);
        due("more again", y.setActions(1, 0, 2), 1);
        due("move 4 is as new", y.next(1, 4), 1);
        by("5: this is an edit, though the number stays");
        y.setActions(0, 0, 2);
        y.undo();
        due("the moves are back", y.next(0, 4), 2);
    }

    private static void actions() {
        CoalitionChecker x = Boards.with(2, 12);
        x.setActions(11, 1, 3);
        by("6: returns the number");
        due("the least", x.actions(11, 0), 1);
        due("the greatest", x.actions(11, 1), 3);
        by("6: BAD if there is no such state");
        ASKS.range("state", state -> x.actions(state, 1), 0, 11);
        by("6: BAD if there is no such agent");
        ASKS.range("agent", agent -> x.actions(0, agent), 0, 1);
        due("nor one of the room for four", x.actions(0, 3), BAD);
        by("6: BAD where nothing is there yet");
        due("no state", new CoalitionChecker(4).actions(0, 0), BAD);
    }

    private static void label() {
        CoalitionChecker x = Boards.with(1, 12);
        by("7: a letter a to z");
        ASKS.range("letter", letter -> x.label(0, letter, true), 'a', 'z');
        due("both ends were given", x.labels(0), 1 | 1 << 25);
        for (int letter : new int[] {0, 1, 25, 26, '0', 'A', 'Z', 'a' + 32, 'a' + 256}) {
            due("letter " + letter, x.label(0, letter, true), BAD);
            due("letter " + letter, x.label(0, letter, false), BAD);
        }
        by("7: BAD if there is no such state");
        ASKS.range("state", state -> x.label(state, 'b', true), 0, 11);
        due("no state", new CoalitionChecker(1).label(0, 'a', true), BAD);
        by("7: returns 1 if it had this label, otherwise 0");
        due("it had it", x.label(11, 'b', true), 1);
        due("it had it until now", x.label(11, 'b', false), 1);
        due("it has it no more", x.label(11, 'b', false), 0);
        due("nor now", x.label(11, 'b', true), 0);
        by("7: this is an edit, though nothing changes");
        CoalitionChecker y = Boards.with(1, 1);
        y.label(0, 'a', false);
        due("undo", y.undo(), 1);
        due("undo", y.undo(), 0);
    }

    private static void labels() {
        CoalitionChecker x = Boards.with(1, 12);
        by("8: bit 0 for a to bit 25 for z");
        for (int i = 0; i < 26; i++) {
            x.label(11, 'a' + i, true);
            due("labels", x.labels(11), (2 << i) - 1);
        }
        for (int i = 0; i < 26; i++) {
            x.label(11, 'a' + i, false);
            due("labels", x.labels(11), (1 << 26) - (2 << i));
        }
        by("8: BAD if there is no such state");
        ASKS.range("state", x::labels, 0, 11);
        due("no state", new CoalitionChecker(1).labels(0), BAD);
    }

    private static void setMove() {
        for (int n = 1; n <= 4; n++) {
            int last = Boards.power(n) - 1;
            CoalitionChecker x = Boards.with(n, 12);
            Boards.allActions(x, 11, 3);
            by("9: BAD if the move is not possible");
            ASKS.range("move of " + n, move -> x.setMove(11, move, 0), 0, last);
            ASKS.range("move of one action each", move -> x.setMove(0, move, 0), 0, 0);
            by("9: BAD if there is no such state");
            ASKS.range("state", state -> x.setMove(state, 0, 0), 0, 11);
            by("9: BAD if there is no such next state");
            ASKS.range("next", next -> x.setMove(11, last, next), 0, 11);
            by("9: returns the state to which it led");
            due("from the last state", x.setMove(11, last, 0), 11);
            due("from state 0", x.setMove(11, last, 5), 0);
            due("from 5", x.setMove(11, last, 5), 5);
        }
        by("9: BAD where nothing is there yet");
        due("no state", new CoalitionChecker(1).setMove(0, 0, 0), BAD);
        by("9: this is an edit, though nothing changes");
        CoalitionChecker y = Boards.with(1, 1);
        y.setMove(0, 0, 0);
        due("undo", y.undo(), 1);
    }

    private static void setAll() {
        CoalitionChecker x = Boards.with(4, 12);
        Boards.allActions(x, 11, 3);
        x.setActions(0, 3, 2);
        by("10: an action that the agent has there");
        ASKS.range("action of three", action -> x.setAll(11, 3, action, 11), 0, 2);
        ASKS.range("action of two", action -> x.setAll(0, 3, action, 0), 0, 1);
        ASKS.range("action of one", action -> x.setAll(0, 0, action, 0), 0, 0);
        by("10: BAD if there is no such state");
        ASKS.range("state", state -> x.setAll(state, 0, 0, 0), 0, 11);
        by("10: BAD if there is no such agent");
        ASKS.range("agent", agent -> x.setAll(1, agent, 0, 0), 0, 3);
        by("10: BAD if there is no such next state");
        ASKS.range("next", next -> x.setAll(11, 0, 0, next), 0, 11);
        due("no state", new CoalitionChecker(4).setAll(0, 0, 0, 0), BAD);
        by("10: returns the number of moves that led elsewhere");
        CoalitionChecker y = Boards.with(4, 2);
        Boards.allActions(y, 0, 3);
        due("none", y.setAll(0, 3, 2, 0), 0);
        due("all with this action", y.setAll(0, 3, 2, 1), 27);
        due("none now", y.setAll(0, 3, 2, 1), 0);
        due("all but nine", y.setAll(0, 0, 2, 1), 18);
        due("all but some", y.setAll(0, 1, 0, 1), 12);
        y.setActions(0, 2, 1);
        due("all moves of a single action", y.setAll(0, 2, 0, 1), 27);
        due("only one move", y.setAll(1, 2, 0, 0), 1);
        by("10: this is an edit, though none led elsewhere");
        CoalitionChecker z = Boards.with(1, 1);
        z.setAll(0, 0, 0, 0);
        due("undo", z.undo(), 1);
    }

    private static void next() {
        for (int n = 1; n <= 4; n++) {
            CoalitionChecker x = Boards.with(n, 12);
            Boards.allActions(x, 11, 3);
            by("11: BAD if the move is not possible");
            ASKS.range("move of " + n, move -> x.next(11, move), 0, Boards.power(n) - 1);
            ASKS.range("move of one action each", move -> x.next(0, move), 0, 0);
            by("11: BAD if there is no such state");
            ASKS.range("state", state -> x.next(state, 0), 0, 11);
        }
        due("no state", new CoalitionChecker(1).next(0, 0), BAD);
    }

    private static void moves() {
        by("12: returns the number of moves");
        for (int n = 1; n <= 4; n++) {
            CoalitionChecker x = Boards.with(n, 12);
            due("the least number", x.moves(11), 1);
            Boards.allActions(x, 11, 3);
            due("the greatest of " + n, x.moves(11), Boards.power(n));
            Boards.allActions(x, 11, 2);
            due("two each of " + n, x.moves(11), 1 << n);
            by("12: BAD if there is no such state");
            ASKS.range("state", x::moves, 0, 11);
        }
        due("no state", new CoalitionChecker(1).moves(0), BAD);
    }

    // ---- one step

    private static void force() {
        for (int n = 1; n <= 4; n++) {
            int all = (1 << n) - 1;
            CoalitionChecker x = Boards.lastMove(n);
            by("13: the coalition, 0 to 2^n - 1");
            ASKS.range("coalition of " + n, coalition -> x.force(coalition, 0, 3), 0, all);
            by("13: BAD if there is no such state");
            ASKS.range("state", state -> x.force(all, state, 3), 0, 1);
            by("13: BAD if the set has a bit without a state");
            ASKS.range("set", set -> x.force(all, 0, set), 0, 3);
            due("a bit without a state beside the others", x.force(all, 0, 7), BAD);
            due("the sign bit beside the others", x.force(all, 0, LOW | 3), BAD);
            by("13: returns the number of the least joint action that forces it");
            due("the greatest number", x.force(all, 0, 2), Boards.power(n) - 1);
            due("the least number", x.force(all, 0, 3), 0);
            by("13: NONE if there is none");
            due("nobody", x.force(0, 0, 2), NONE);
            due("the empty set", x.force(all, 0, 0), NONE);
            due("nobody and the empty set", x.force(0, 1, 0), NONE);
        }
        CoalitionChecker y = Boards.with(1, 12);
        by("13: the set, bit k for state k");
        due("the last of twelve", y.force(1, 11, 1 << 11), 0);
        due("all twelve", y.force(0, 11, 4095), 0);
        due("a thirteenth", y.force(1, 11, 4096), BAD);
        by("13: BAD where nothing is there yet");
        due("no state", new CoalitionChecker(1).force(0, 0, 0), BAD);
    }

    private static void reply() {
        for (int n = 1; n <= 4; n++) {
            int all = (1 << n) - 1;
            int last = Boards.power(n) - 1;
            CoalitionChecker x = Boards.lastMove(n);
            by("14: the coalition, 0 to 2^n - 1");
            ASKS.range("coalition of " + n, coalition -> x.reply(coalition, 0, 0, 0), 0, all);
            by("14: BAD if there is no such state");
            ASKS.range("state", state -> x.reply(all, state, 0, 0), 0, 1);
            by("14: BAD if there is no such joint action");
            ASKS.range("action", action -> x.reply(all, 0, action, 0), 0, last);
            ASKS.range("action where each has one", action -> x.reply(all, 1, action, 0), 0, 0);
            ASKS.range("action of nobody", action -> x.reply(0, 0, action, 0), 0, 0);
            ASKS.range("action of agent 0", action -> x.reply(1, 0, action, 0), 0, 2);
            by("14: BAD if the set has a bit without a state");
            ASKS.range("set", set -> x.reply(0, 0, 0, set), 0, 3);
            by("14: the least number of a possible move with this joint action");
            due("the first", x.reply(0, 0, 0, 2), 0);
            due("the last alone", x.reply(0, 0, 0, 1), last);
            due("the one that is made", x.reply(all, 0, last, 1), last);
            due("out of the empty set", x.reply(all, 0, last, 0), last);
            by("14: NONE if there is none");
            due("out of all states", x.reply(0, 0, 0, 3), NONE);
            due("out of the one that is made", x.reply(all, 0, last, 2), NONE);
        }
        by("14: the number of a joint action of the coalition");
        CoalitionChecker y = Boards.lastMove(4);
        for (int action = 0; action < 81; action++) {
            boolean own = Boards.digit(action, 0) == 0 && Boards.digit(action, 2) == 0;
            due("agents 1 and 3, " + action, y.reply(10, 0, action, 2), own ? action : BAD);
        }
        by("14: BAD where nothing is there yet");
        due("no state", new CoalitionChecker(1).reply(0, 0, 0, 0), BAD);
    }

    private static void forced() {
        by("15: the coalition, 0 to 2^n - 1");
        for (int n = 1; n <= 4; n++) {
            CoalitionChecker x = Boards.lastMove(n);
            ASKS.range("coalition of " + n, coalition -> x.forced(coalition, 0), 0, (1 << n) - 1);
        }
        by("15: BAD if there is no such state");
        CoalitionChecker x = Boards.with(4, 12);
        ASKS.range("state", state -> x.forced(0, state), 0, 11);
        due("no state", new CoalitionChecker(1).forced(0, 0), BAD);
        by("15: returns the number of sets");
        due("of a single state", Boards.with(1, 1).forced(1, 0), 1);
        due("with the only way of twelve states", x.forced(15, 0), 2048);
        for (int agent = 0; agent < 3; agent++) {
            x.setActions(11, agent, 3);
        }
        for (int move = 0; move < 27; move++) {
            x.setMove(11, move, move % 12);
        }
        due("all but the empty one", x.forced(7, 11), 4095);
        due("the full one alone", x.forced(0, 11), 1);
        due("nor can the last agent more", x.forced(8, 11), 1);
    }

    // ---- formulas

    private static void type() {
        CoalitionChecker x = new CoalitionChecker(1);
        by("16: BAD if c is not in 32 to 126");
        ASKS.beyond("c", x::type, 32, 126);
        due("0", x.type(0), BAD);
        due("97 + 256", x.type(97 + 256), BAD);
        by("16: returns the length of the text");
        due("32", x.type(32), 1);
        due("126", x.type(126), 2);
        for (int i = 3; i <= 60; i++) {
            due("type", x.type('a'), i);
        }
        by("16: FULL if the text has 60 characters");
        due("the 61st", x.type('a'), FULL);
        due("and again", x.type(32), FULL);
        by("16: BAD comes before FULL");
        ASKS.beyond("c", x::type, 32, 126);
        by("16: after an empty text there is room again");
        due("clear", x.clear(), 60);
        due("the first", x.type('a'), 1);
    }

    private static void clear() {
        CoalitionChecker x = new CoalitionChecker(1);
        by("17: the length that it had");
        due("nothing there yet", x.clear(), 0);
        x.type('a');
        due("one", x.clear(), 1);
        Boards.write(x, LONGEST);
        x.type('a');
        due("no room for more", x.clear(), 60);
        due("nothing again", x.clear(), 0);
        by("17: makes the text empty");
        due("an empty text is no formula", x.read(), -100);
        due("the length", x.type('b'), 1);
    }

    private static void read() {
        CoalitionChecker x = Boards.with(4, 1);
        by("18: -100 minus the error position");
        due("the least position", x.read(), -100);
        Boards.write(x, LONGEST.substring(1) + "&");
        due("the greatest position", x.read(), -160);
        by("18: nothing is changed then");
        due("the text", x.clear(), 60);
        due("formulas", x.formulas(), 0);
        by("18: the position of the first character that cannot stand there");
        due("the last of sixty", Boards.read(x, LONGEST.substring(1) + "a"), -159);
        due("the first of sixty", Boards.read(x, ")" + LONGEST.substring(1)), -100);
        due("the first of two", Boards.read(x, "))"), -100);
        by("18: returns the number of the formula, from 0");
        for (int i = 0; i < 7; i++) {
            due("read", Boards.read(x, "a"), i);
        }
        due("one of sixty characters", Boards.read(x, LONGEST), 7);
        by("18: the text is empty then");
        due("clear", x.clear(), 0);
        by("18: FULL if there are 8 formulas");
        due("a formula", Boards.read(x, "a"), FULL);
        due("the text stays", x.clear(), 1);
        by("18: FULL comes before the error of the form");
        due("an empty text", x.read(), FULL);
        due("no formula", Boards.read(x, "a)"), FULL);
        due("the text stays", x.clear(), 2);
        by("18: after forget there is room again");
        x.forget();
        due("the first", Boards.read(x, "a"), 0);
    }

    private static void forget() {
        CoalitionChecker x = Boards.with(1, 1);
        by("19: returns how many there were");
        due("nothing there yet", x.forget(), 0);
        Boards.read(x, "1");
        due("one", x.forget(), 1);
        for (int i = 0; i < 9; i++) {
            Boards.read(x, "1");
        }
        due("no room for more", x.forget(), 8);
        due("nothing again", x.forget(), 0);
        by("19: forgets all formulas");
        for (int f = 0; f < 8; f++) {
            due("formula " + f, x.parts(f), BAD);
        }
    }

    private static void formulas() {
        CoalitionChecker x = Boards.with(1, 1);
        by("20: the number of formulas");
        due("nothing there yet", x.formulas(), 0);
        for (int i = 1; i <= 8; i++) {
            Boards.read(x, "1");
            due("formulas", x.formulas(), i);
        }
        Boards.read(x, "1");
        due("no room for more", x.formulas(), 8);
        x.forget();
        Boards.read(x, "1&");
        due("one that is none", x.formulas(), 0);
    }

    private static CoalitionChecker eightFormulas() {
        CoalitionChecker x = Boards.chain(2, 2);
        Boards.readAll(x, "<0>Fg", "<>(1Ug)", "<1>Xg", "<01>Gg", "[0]Fg", "g", "!<0>Fg", "0");
        return x;
    }

    private static void parts() {
        by("21: BAD if there is no such formula");
        CoalitionChecker x = eightFormulas();
        ASKS.range("formula", x::parts, 0, 7);
        due("nothing there yet", new CoalitionChecker(1).parts(0), BAD);
        by("21: returns the number of parts");
        due("the least number", x.parts(5), 1);
        x.forget();
        due("the longest text", Boards.read(x, LONGEST), 0);
        due("the greatest number", x.parts(0), 60);
        Boards.read(x, "(".repeat(29) + "a" + ")".repeat(29));
        due("parentheses make none", x.parts(1), 1);
        Boards.read(x, "[]X".repeat(19) + "!a");
        due("a goal is none", x.parts(2), 21);
    }

    private static void where() {
        CoalitionChecker x = Boards.with(4, 12);
        x.label(11, 'a', true);
        Boards.read(x, LONGEST);
        by("22: BAD if there is no such part");
        ASKS.range("part", part -> x.where(0, part), 0, 59);
        by("22: BAD if there is no such formula");
        ASKS.range("formula", formula -> x.where(formula, 0), 0, 0);
        due("nothing there yet", new CoalitionChecker(1).where(0, 0), BAD);
        by("22: returns the set, bit k for state k");
        due("the first part", x.where(0, 0), 1 << 11);
        due("the second part", x.where(0, 1), 2047);
        due("the last part", x.where(0, 59), 0);
        Boards.read(x, "1");
        due("all states", x.where(1, 0), 4095);
        CoalitionChecker y = new CoalitionChecker(4);
        Boards.readAll(y, "1", "!0", "<>G1", "[]X0", "<0123>(0U1)", "[]G1", "[](1U1)", "a|!a");
        for (int f = 0; f < 8; f++) {
            due("no state there yet", y.where(f, y.parts(f) - 1), 0);
        }
    }

    private static void holds() {
        CoalitionChecker x = eightFormulas();
        by("23: BAD if there is no such formula");
        ASKS.range("formula", formula -> x.holds(formula, 0), 0, 7);
        due("nothing there yet", Boards.with(1, 1).holds(0, 0), BAD);
        by("23: BAD if there is no such state");
        ASKS.range("state", state -> x.holds(0, state), 0, 1);
        CoalitionChecker y = new CoalitionChecker(1);
        Boards.read(y, "1");
        due("no state there yet", y.holds(0, 0), BAD);
        by("23: returns 1 if it holds, otherwise 0");
        for (int i = 0; i < 12; i++) {
            y.addState();
            due("in the newest state", y.holds(0, i), 1);
        }
        y.label(11, 'a', true);
        Boards.read(y, "a");
        for (int i = 0; i < 12; i++) {
            due("in state " + i, y.holds(1, i), i == 11 ? 1 : 0);
        }
    }

    private static void counterexample() {
        CoalitionChecker x = eightFormulas();
        by("24: BAD if there is no such formula");
        ASKS.range("formula", formula -> x.counterexample(formula, 7), 0, 7);
        ASKS.range("other", other -> x.counterexample(7, other), 0, 7);
        due("nothing there yet", Boards.with(1, 1).counterexample(0, 0), BAD);
        by("24: the smallest state in which the first one holds and the second one does not");
        CoalitionChecker y = Boards.with(1, 12);
        Boards.readAll(y, "1", "a", "0");
        due("the first state", y.counterexample(0, 2), 0);
        for (int i = 0; i < 11; i++) {
            y.label(i, 'a', true);
            due("the first without it", y.counterexample(0, 1), i + 1);
        }
        by("24: NONE if there is none");
        y.label(11, 'a', true);
        due("no state without it", y.counterexample(0, 1), NONE);
        due("one that holds nowhere", y.counterexample(2, 1), NONE);
        due("the same", y.counterexample(0, 0), NONE);
        CoalitionChecker z = new CoalitionChecker(1);
        Boards.readAll(z, "1", "0");
        due("no state there yet", z.counterexample(0, 1), NONE);
    }

    // ---- strategies

    private static void rank() {
        by("25: returns the rank");
        CoalitionChecker x = Boards.chain(2, 12);
        Boards.readAll(x, "<>Fg", "<01>(1Ug)", "<>F0", "<>(1U0)", "<>(0Ug)", "<0>Gg", "<0>Xg", "[]Fg");
        for (int s = 0; s < 12; s++) {
            due("F in " + s, x.rank(0, s), 11 - s);
            due("U in " + s, x.rank(1, s), 11 - s);
        }
        by("25: NONE if it does not hold there");
        for (int s = 0; s < 12; s++) {
            due("F0 in " + s, x.rank(2, s), NONE);
            due("(1U0) in " + s, x.rank(3, s), NONE);
            due("(0Ug) in " + s, x.rank(4, s), s == 11 ? 0 : NONE);
        }
        by("25: FORM if its outermost part is not \"<\" agents \">\" with F or U");
        for (int f = 5; f < 8; f++) {
            due("formula " + f, x.rank(f, 11), FORM);
            due("formula " + f, x.rank(f, 0), FORM);
        }
        CoalitionChecker y = eightFormulas();
        due("a letter", y.rank(5, 1), FORM);
        due("a not", y.rank(6, 1), FORM);
        due("a nought", y.rank(7, 1), FORM);
        y.forget();
        Boards.readAll(y, "((<0>Fg))", "<0>Fg&1", "0|<0>Fg", "[0](1Ug)", "[0]Xg", "[0]Gg", "1");
        due("in parentheses", y.rank(0, 0), 1);
        for (int f = 1; f < 7; f++) {
            due("formula " + f, y.rank(f, 1), FORM);
        }
        by("25: BAD if there is no such formula or state");
        ASKS.range("formula", formula -> x.rank(formula, 0), 0, 7);
        ASKS.range("state", state -> x.rank(0, state), 0, 11);
        by("25: BAD comes before FORM");
        ASKS.beyond("state", state -> x.rank(5, state), 0, 11);
        due("nothing there yet", new CoalitionChecker(1).rank(0, 0), BAD);
    }

    private static void strategy() {
        by("26: BAD if there is no such formula or state");
        CoalitionChecker x = eightFormulas();
        ASKS.range("formula", formula -> x.strategy(formula, 0), 0, 7);
        ASKS.range("state", state -> x.strategy(0, state), 0, 1);
        due("nothing there yet", new CoalitionChecker(1).strategy(0, 0), BAD);
        by("26: FORM if its outermost part is not \"<\" agents \">\" goal");
        for (int f = 0; f < 8; f++) {
            due("formula " + f, x.strategy(f, 1), f < 4 ? 0 : FORM);
        }
        by("26: BAD comes before FORM");
        ASKS.beyond("state", state -> x.strategy(4, state), 0, 1);
        by("26: returns the number of the joint action");
        for (int n = 1; n <= 4; n++) {
            CoalitionChecker y = Boards.lastMove(n);
            String all = "0123".substring(0, n);
            Boards.readAll(y, "<" + all + ">Xg", "<" + all + ">Fg", "<" + all + ">(1Ug)", "<>Xg", "<" + all + ">Gg");
            for (int f = 0; f < 3; f++) {
                due("the greatest, formula " + f, y.strategy(f, 0), Boards.power(n) - 1);
                due("where it is reached, formula " + f, y.strategy(f, 1), 0);
            }
            due("of nobody", y.strategy(3, 0), 0);
            due("where G does not hold", y.strategy(4, 0), 0);
        }
    }

    private static void plan() {
        CoalitionChecker x = Boards.with(3, 12);
        by("27: action is 0 to 2");
        ASKS.range("action", action -> x.plan(11, 2, action), 0, 2);
        by("27: returns the previous action");
        due("the greatest", x.plan(11, 2, 0), 2);
        due("the least", x.plan(11, 2, 2), 0);
        by("27: BAD if there is no such state");
        ASKS.range("state", state -> x.plan(state, 2, 1), 0, 11);
        by("27: BAD if there is no such agent");
        ASKS.range("agent", agent -> x.plan(0, agent, 1), 0, 2);
        due("nor one of the room for four", x.plan(0, 3, 1), BAD);
        due("nothing there yet", new CoalitionChecker(3).plan(0, 0, 0), BAD);
        by("27: an action that the agent does not have there can be planned");
        due("from 1", x.plan(11, 2, 2), 1);
        due("actions", x.actions(11, 2), 1);
        due("planned", x.planned(11, 2), 2);
        by("27: this is an edit, though the action stays");
        CoalitionChecker y = Boards.with(1, 1);
        y.plan(0, 0, 0);
        due("undo", y.undo(), 1);
    }

    private static void adopt() {
        by("28: BAD if there is no such formula");
        CoalitionChecker x = eightFormulas();
        ASKS.range("formula", x::adopt, 0, 7);
        due("nothing there yet", new CoalitionChecker(1).adopt(0), BAD);
        by("28: FORM if its outermost part is not \"<\" agents \">\" goal");
        for (int f = 4; f < 8; f++) {
            due("formula " + f, x.adopt(f), FORM);
        }
        by("28: returns how many actions of the plan have changed");
        CoalitionChecker y = Boards.with(4, 12);
        Boards.readAll(y, "<0123>X0", "<>X0", "<3>X0");
        due("none", y.adopt(0), 0);
        for (int s = 0; s < 12; s++) {
            for (int agent = 0; agent < 4; agent++) {
                y.plan(s, agent, 1 + (s + agent) % 2);
            }
        }
        due("nobody's", y.adopt(1), 0);
        due("one agent's", y.adopt(2), 12);
        due("all others'", y.adopt(0), 36);
        for (int s = 0; s < 12; s++) {
            for (int agent = 0; agent < 4; agent++) {
                y.plan(s, agent, 2);
            }
        }
        due("all", y.adopt(0), 48);
        CoalitionChecker none = new CoalitionChecker(4);
        Boards.read(none, "<0123>G1");
        due("no state there yet", none.adopt(0), 0);
        by("28: this is an edit, though nothing changes");
        due("undo", none.undo(), 0);
        by("28: for others it stays");
        CoalitionChecker z = Boards.lastMove(4);
        for (int agent = 0; agent < 4; agent++) {
            z.plan(0, agent, 1);
        }
        Boards.readAll(z, "<03>Xg", "<0123>Fg");
        due("two of four", z.adopt(0), 2);
        int[] planned = {0, 1, 1, 0};
        for (int agent = 0; agent < 4; agent++) {
            due("agent " + agent, z.planned(0, agent), planned[agent]);
        }
        by("28: makes the plan tell what the strategy tells");
        due("all four", z.adopt(1), 4);
        for (int agent = 0; agent < 4; agent++) {
            due("agent " + agent, z.planned(0, agent), 2);
        }
        z.setMove(0, 80, 0);
        for (int move = 0; move < 80; move += 3 + move % 2) {
            z.setMove(0, move, 1);
            due("enforced only by it", z.enforced(1), 2);
            z.adopt(1);
            for (int agent = 0; agent < 4; agent++) {
                due("agent " + agent + " in move " + move, z.planned(0, agent), Boards.digit(move, agent));
            }
            z.setMove(0, move, 0);
        }
    }

    private static void planned() {
        CoalitionChecker x = Boards.with(3, 12);
        x.plan(11, 2, 2);
        x.plan(0, 0, 1);
        by("29: returns the action");
        due("the last", x.planned(11, 2), 2);
        due("the first", x.planned(0, 0), 1);
        due("initially", x.planned(11, 1), 0);
        by("29: BAD if there is no such state");
        ASKS.range("state", state -> x.planned(state, 2), 0, 11);
        by("29: BAD if there is no such agent");
        ASKS.range("agent", agent -> x.planned(0, agent), 0, 2);
        due("nor one of the room for four", x.planned(0, 3), BAD);
        due("nothing there yet", new CoalitionChecker(3).planned(0, 0), BAD);
    }

    private static void enforced() {
        by("30: BAD if there is no such formula");
        CoalitionChecker x = eightFormulas();
        ASKS.range("formula", x::enforced, 0, 7);
        due("nothing there yet", new CoalitionChecker(1).enforced(0), BAD);
        by("30: FORM if its outermost part is not \"<\" agents \">\" goal");
        for (int f = 4; f < 8; f++) {
            due("formula " + f, x.enforced(f), FORM);
        }
        by("30: returns the set, bit k for state k");
        CoalitionChecker y = Boards.chain(4, 12);
        Boards.readAll(y, "<0123>Fg", "<0>Gg", "<>X1", "<1>X0", "<>(0Ug)", "<2>G!g");
        int[] sets = {4095, 2048, 4095, 0, 2048, 0};
        for (int f = 0; f < sets.length; f++) {
            due("formula " + f, y.enforced(f), sets[f]);
        }
        CoalitionChecker none = new CoalitionChecker(4);
        Boards.readAll(none, "<0123>G1", "<>X1", "<>F1", "<>(1U1)");
        for (int f = 0; f < 4; f++) {
            due("no state there yet", none.enforced(f), 0);
        }
    }

    private static void play() {
        by("31: rounds is 0 to 200");
        CoalitionChecker x = eightFormulas();
        ASKS.range("rounds", rounds -> x.play(0, 0, rounds, 1), 0, 200);
        due("no round", x.play(0, 0, 0, 1), 0);
        due("one round", x.play(0, 0, 1, 1), 1);
        due("all rounds", x.play(0, 0, 200, 1), 1);
        by("31: BAD if there is no such formula or state");
        ASKS.range("formula", formula -> x.play(formula, 0, 1, 1), 0, 7);
        ASKS.range("state", state -> x.play(0, state, 1, 1), 0, 1);
        ASKS.beyond("state without a round", state -> x.play(0, state, 0, 1), 0, 1);
        due("nothing there yet", Boards.with(1, 1).play(0, 0, 0, 1), BAD);
        by("31: FORM if the outermost part is not \"<\" agents \">\" goal");
        for (int f = 0; f < 8; f++) {
            due("formula " + f, x.play(f, 1, 200, 1), f < 4 ? 1 : FORM);
        }
        by("31: BAD comes before FORM");
        ASKS.beyond("state", state -> x.play(4, state, 1, 1), 0, 1);
        ASKS.beyond("rounds", rounds -> x.play(4, 0, rounds, 1), 0, 200);
        by("31: 200 rounds are played");
        CoalitionChecker ring = Boards.with(1, 7);
        for (int s = 0; s < 7; s++) {
            ring.setMove(s, 0, (s + 1) % 7);
        }
        Boards.read(ring, "<0>X1");
        for (int rounds : new int[] {0, 1, 6, 7, 199, 200}) {
            due(rounds + " rounds", ring.play(0, 3, rounds, HIGH), (3 + rounds) % 7);
        }
    }

    private static void smallest() {
        by("32: BAD if there is no such formula or state");
        CoalitionChecker x = eightFormulas();
        ASKS.range("formula", formula -> x.smallest(formula, 0), 0, 7);
        ASKS.range("state", state -> x.smallest(0, state), 0, 1);
        due("nothing there yet", new CoalitionChecker(1).smallest(0, 0), BAD);
        by("32: FORM if its outermost part is not \"<\" agents \">\" goal");
        for (int f = 4; f < 8; f++) {
            due("formula " + f, x.smallest(f, 1), FORM);
        }
        by("32: BAD comes before FORM");
        ASKS.beyond("state", state -> x.smallest(4, state), 0, 1);
        for (int n = 1; n <= 4; n++) {
            CoalitionChecker y = Boards.lastMove(n);
            Boards.readAll(y, "<>Fg", "<0>F0", "<0>X1");
            by("32: the coalition with the fewest agents");
            due("all are needed", y.smallest(0, 0), (1 << n) - 1);
            due("nobody is needed", y.smallest(0, 1), 0);
            due("nor here", y.smallest(2, 0), 0);
            by("32: NONE if there is none");
            due("nobody can", y.smallest(1, 0), NONE);
            by("32: FORM comes before NONE");
            due("a box", Boards.read(y, "[0]F0"), 3);
            due("nobody can", y.smallest(3, 0), FORM);
        }
        by("32: of several the one with the smallest number");
        CoalitionChecker z = Boards.with(4, 2);
        z.label(1, 'g', true);
        Boards.allActions(z, 0, 2);
        Boards.read(z, "<>Xg");
        for (int agent = 3; agent >= 0; agent--) {
            z.setAll(0, agent, 1, 1);
            due("with agent " + agent, z.smallest(0, 0), 1 << agent);
        }
    }

    // ---- likeness

    private static void classes() {
        by("33: returns the number of classes");
        CoalitionChecker x = new CoalitionChecker(4);
        due("nothing there yet", x.classes(), 0);
        for (int s = 0; s < 12; s++) {
            x.addState();
            due("all alike", x.classes(), 1);
        }
        for (int s = 0; s < 11; s++) {
            x.setMove(s, 0, s + 1);
        }
        due("none can be told apart yet", x.classes(), 1);
        x.label(11, 'z', true);
        due("each by its way to the last one", x.classes(), 12);
        x.setMove(11, 0, 0);
        due("and so in a ring", x.classes(), 12);
        x.label(5, 'z', true);
        due("half of the ring is like the other", x.classes(), 6);
    }

    private static void classOf() {
        by("34: BAD if there is no such state");
        CoalitionChecker x = Boards.chain(1, 12);
        ASKS.range("state", x::classOf, 0, 11);
        due("nothing there yet", new CoalitionChecker(1).classOf(0), BAD);
        by("34: returns the number of its class, from 0 in the order of their smallest states");
        for (int s = 0; s < 12; s++) {
            due("classOf", x.classOf(s), s);
        }
        x.setMove(11, 0, 0);
        x.label(5, 'g', true);
        for (int s = 0; s < 12; s++) {
            due("classOf in a ring", x.classOf(s), s % 6);
        }
    }

    // ---- history

    private static void undo() {
        CoalitionChecker x = new CoalitionChecker(2);
        by("35: NONE if it has none");
        due("nothing there yet", x.undo(), NONE);
        due("nor again", x.undo(), NONE);
        by("35: returns how many states the history still has");
        for (int edits = 1; edits <= 4; edits++) {
            for (int i = 0; i < edits; i++) {
                x.addState();
            }
            for (int left = edits - 1; left >= 0; left--) {
                due("undo", x.undo(), left);
                due("states", x.states(), left);
            }
            due("undo", x.undo(), NONE);
        }
        by("35: no room for a fifth");
        for (int i = 0; i < 12; i++) {
            x.addState();
        }
        for (int left = 3; left >= 0; left--) {
            due("undo", x.undo(), left);
        }
        due("undo", x.undo(), NONE);
        due("states", x.states(), 8);
    }

    private static void fingerprint() {
        by("36: starts as 41; then states(), formulas()");
        CoalitionChecker x = new CoalitionChecker(1);
        due("nothing there yet", x.fingerprint(), (41L * 31 + 0) * 31 + 0);
        Boards.readAll(x, "1", "1", "1", "1", "1", "1", "1", "1");
        due("eight formulas", x.fingerprint(), (41L * 31 + 0) * 31 + 8);
        Boards.read(x, "1");
        due("no room for more", x.fingerprint(), (41L * 31 + 0) * 31 + 8);
    }
}
