/**
 * The edges that the document names under "What it is" and "Terms", which no single promise repeats: a
 * line "by" for each sentence.
 */
public final class TermsTest {
    private static final int BAD = -1;
    private static final int FULL = -2;
    private static final int FORM = -3;
    private static final int NONE = -9;

    private static final Asks ASKS = new Asks("TermsTest");

    private TermsTest() {
    }

    public static void main(String[] args) {
        calls();
        agents();
        actions();
        labels();
        moveNumbers();
        newMoves();
        coalitions();
        texts();
        blanks();
        agentDigits();
        goals();
        conjunctions();
        errorPositions();
        partOrder();
        eightFormulas();
        constants();
        usualMeaning();
        ranks();
        untilRanks();
        always();
        boxes();
        boxUntil();
        strategies();
        plans();
        plansCountForEnforcedAlone();
        actionsThatAreNotThere();
        likeness();
        likenessOfOneState();
        edits();
        noEdits();
        fourStates();
        formulasStay();
        labelsGone();
        firstError();
        ASKS.finish();
    }

    private static void by(String sentence) {
        ASKS.by(sentence);
    }

    private static void due(String what, long got, long want) {
        ASKS.due(what, got, want);
    }

    private static void calls() {
        by("An object is used for at most 512 calls");
        CoalitionChecker x = new CoalitionChecker(1);
        due("call 1", x.addState(), 0);
        for (int call = 2; call <= 510; call++) {
            due("call " + call, x.plan(0, 0, call % 3), call == 2 ? 0 : (call - 1) % 3);
        }
        due("call 511", x.planned(0, 0), 510 % 3);
        due("call 512", x.undo(), 3);
    }

    // ---- structure

    private static void agents() {
        by("There are n agents, numbered from 0 to n - 1");
        for (int n = 1; n <= 4; n++) {
            CoalitionChecker x = Boards.with(n, 2);
            for (int agent = -2; agent < 8; agent++) {
                due("agent " + agent + " of " + n, x.actions(0, agent), agent >= 0 && agent < n ? 1 : BAD);
            }
        }
    }

    private static void actions() {
        by("each agent has a number of actions from 1 to 3 (initially 1), numbered from 0");
        for (int n = 1; n <= 3; n++) {
            CoalitionChecker x = Boards.with(1, 1);
            due("initially", x.actions(0, 0), 1);
            due("set", x.setActions(0, 0, n), 1);
            for (int action = -1; action <= 4; action++) {
                due("action " + action + " of " + n, x.next(0, action), action >= 0 && action < n ? 0 : BAD);
            }
        }
    }

    private static void labels() {
        by("labels, the letters a to z (initially none)");
        CoalitionChecker x = Boards.with(1, 12);
        for (int s = 0; s < 12; s++) {
            due("labels of " + s, x.labels(s), 0);
        }
        for (char letter = 'a'; letter <= 'z'; letter++) {
            due("label " + letter, x.label(11, letter, true), 0);
            due("the formula " + letter, Boards.read(x, "" + letter), 0);
            due("where", x.where(0, 0), 1 << 11);
            due("label " + letter, x.label(11, letter, false), 1);
            due("where it was", x.where(0, 0), 0);
            x.forget();
        }
    }

    private static void moveNumbers() {
        by("A move is possible if each of its actions is less than the number of actions of its agent");
        int[][] counts = {{1, 1, 1, 1}, {3, 1, 1, 1}, {1, 1, 1, 3}, {2, 2, 2, 2}, {3, 2, 1, 3}, {1, 3, 2, 1}, {3, 3, 3, 3}};
        for (int n = 1; n <= 4; n++) {
            for (int[] count : counts) {
                CoalitionChecker x = Boards.with(n, 1);
                for (int agent = 0; agent < n; agent++) {
                    x.setActions(0, agent, count[agent]);
                }
                for (int move = -1; move <= 82; move++) {
                    boolean possible = move >= 0 && move < Boards.power(n);
                    for (int agent = 0; agent < n && possible; agent++) {
                        possible = Boards.digit(move, agent) < count[agent];
                    }
                    due("move " + move, x.next(0, move), possible ? 0 : BAD);
                    due("setMove of " + move, x.setMove(0, move, 0), possible ? 0 : BAD);
                }
            }
        }
    }

    private static void newMoves() {
        by("Initially each move leads back to its state");
        CoalitionChecker x = new CoalitionChecker(4);
        for (int s = 0; s < 12; s++) {
            x.addState();
            due("the only move of " + s, x.next(s, 0), s);
        }
        Boards.allActions(x, 11, 3);
        for (int move = 0; move < 81; move++) {
            due("move " + move, x.next(11, move), 11);
        }
    }

    private static void coalitions() {
        by("bit i for agent i; the others are the agents that are not in it");
        for (int agent = 0; agent < 4; agent++) {
            CoalitionChecker x = Boards.with(4, 2);
            Boards.allActions(x, 0, 3);
            x.setAll(0, agent, 2, 1);
            for (int coalition = 0; coalition < 16; coalition++) {
                boolean in = (coalition >> agent & 1) == 1;
                int least = 2 * Boards.power(agent);
                due("coalition " + coalition, x.force(coalition, 0, 2), in ? least : NONE);
                due("of it the reply", x.reply(coalition, 0, 0, 1), in ? NONE : least);
            }
        }
    }

    // ---- formulas

    private static void texts() {
        by("a buffer of at most 60 characters with codes from 32 to 126, initially empty");
        CoalitionChecker x = new CoalitionChecker(1);
        due("initially", x.clear(), 0);
        due("an empty text is no formula", x.read(), -100);
        for (int c = -130; c <= 400; c++) {
            CoalitionChecker y = new CoalitionChecker(1);
            due("code " + c, y.type(c), c >= 32 && c <= 126 ? 1 : BAD);
        }
    }

    private static void blanks() {
        by("there are no blanks");
        String[] texts = {" a", "a ", "a |b", "a| b", "! a", "( a)", "(a )", "< 0>Xa", "<0 1>Xa", "<0> Xa", "<0>X a",
            "<0>( aUb)", "<0>(a Ub)", "<0>(aU b)", "<0>(aUb )"};
        for (String text : texts) {
            due(text, Boards.read(new CoalitionChecker(2), text), -100 - text.indexOf(' '));
        }
    }

    private static void agentDigits() {
        by("agents: digits of agents (0 to n - 1), ascending, perhaps none");
        for (int n = 1; n <= 4; n++) {
            for (char digit = '0'; digit <= '9'; digit++) {
                boolean good = digit - '0' < n;
                due("<" + digit + ">X1 of " + n, Boards.read(new CoalitionChecker(n), "<" + digit + ">X1"), good ? 0 : -101);
                due("[" + digit + "]X1 of " + n, Boards.read(new CoalitionChecker(n), "[" + digit + "]X1"), good ? 0 : -101);
            }
            due("none of " + n, Boards.read(new CoalitionChecker(n), "<>X1"), 0);
            due("none of " + n, Boards.read(new CoalitionChecker(n), "[]X1"), 0);
            String all = "0123".substring(0, n);
            due("all of " + n, Boards.read(new CoalitionChecker(n), "<" + all + ">X1"), 0);
            due("one more than " + n, Boards.read(new CoalitionChecker(n), "<" + all + n + ">X1"), -101 - n);
        }
        for (char first = '0'; first <= '3'; first++) {
            for (char second = '0'; second <= '3'; second++) {
                String text = "<" + first + second + ">X1";
                due(text, Boards.read(new CoalitionChecker(4), text), first < second ? 0 : -102);
            }
        }
        due("before the first", Boards.read(new CoalitionChecker(4), "</>X1"), -101);
        due("after the last digit", Boards.read(new CoalitionChecker(4), "<:>X1"), -101);
    }

    private static void goals() {
        by("goal: \"X\" unit, \"F\" unit, \"G\" unit, or \"(\" formula \"U\" formula \")\"");
        for (int c = 32; c <= 126; c++) {
            boolean good = c == 'X' || c == 'F' || c == 'G' || c == '(';
            due("<0>" + (char) c, Boards.read(new CoalitionChecker(1), "<0>" + (char) c), good ? -104 : -103);
            due("[]" + (char) c, Boards.read(new CoalitionChecker(1), "[]" + (char) c), good ? -103 : -102);
        }
        CoalitionChecker x = new CoalitionChecker(1);
        due("a unit alone", Boards.read(x, "<0>Xa&b"), 0);
        due("is the operand", x.parts(0), 4);
        due("a formula each", Boards.read(x, "<0>(a&b|cUd|!0)"), 1);
        due("are the operands", x.parts(1), 10);
    }

    private static void conjunctions() {
        by("formula: conjunctions with \"|\" between them; unit: ...; \"0\"; \"1\"; a letter a to z; ...");
        for (int c = 32; c <= 126; c++) {
            boolean whole = c == '0' || c == '1' || c >= 'a' && c <= 'z';
            boolean begun = c == '!' || c == '(' || c == '<' || c == '[';
            due("the unit " + (char) c, Boards.read(new CoalitionChecker(1), "" + (char) c), whole ? 0 : begun ? -101 : -100);
            due("after a unit " + (char) c, Boards.read(new CoalitionChecker(1), "a" + (char) c),
                    c == '&' || c == '|' ? -102 : -101);
            due("in parentheses " + (char) c, Boards.read(new CoalitionChecker(1), "(a" + (char) c),
                    c == '&' || c == '|' || c == ')' ? c == ')' ? 0 : -103 : -102);
        }
    }

    private static void errorPositions() {
        by("such that no formula (of any length) begins with the characters up to and including it");
        CoalitionChecker x = new CoalitionChecker(1);
        due("a formula of any length", Boards.read(x, "(".repeat(60)), -160);
        due("the last place of sixty", Boards.read(x, "(".repeat(59) + ")"), -159);
        due("the first place", Boards.read(x, "&" + "(".repeat(59)), -100);
        by("or the length of the text if there is no such character");
        due("of nothing", Boards.read(x, ""), -100);
        due("of one", Boards.read(x, "("), -101);
        due("of 59", Boards.read(x, "!".repeat(59)), -159);
        due("of 60", Boards.read(x, "!".repeat(60)), -160);
        due("without its end", Boards.read(x, "(a"), -102);
        due("without its end", Boards.read(x, "<0>(aUb"), -107);
        due("without its U", Boards.read(x, "<0>(a"), -105);
    }

    private static void partOrder() {
        by("numbered from 0 in the order in which they end in the text, a part before one that contains it");
        CoalitionChecker x = Boards.with(1, 3);
        x.label(0, 'a', true);
        x.label(1, 'b', true);
        x.label(2, 'c', true);
        Boards.readAll(x, "a|b|c", "a|(b|c)", "!(a)", "[](aUb)|c");
        int[][] sets = {{1, 2, 3, 4, 7}, {1, 2, 4, 6, 7}, {1, 6}, {1, 2, 2, 4, 6}};
        for (int f = 0; f < sets.length; f++) {
            due("parts of " + f, x.parts(f), sets[f].length);
            for (int part = 0; part < sets[f].length; part++) {
                due("part " + part + " of " + f, x.where(f, part), sets[f][part]);
            }
        }
    }

    private static void eightFormulas() {
        by("At most 8 formulas are kept, numbered from 0");
        CoalitionChecker x = Boards.with(1, 3);
        String[] texts = {"0", "a", "b", "c", "a|b", "b|c", "a|c", "1"};
        x.label(0, 'a', true);
        x.label(1, 'b', true);
        x.label(2, 'c', true);
        int[] sets = {0, 1, 2, 4, 3, 6, 5, 7};
        for (int f = 0; f < 8; f++) {
            due("read", Boards.read(x, texts[f]), f);
        }
        due("the ninth", Boards.read(x, "!a"), FULL);
        for (int f = 0; f < 8; f++) {
            due("formula " + f, x.where(f, x.parts(f) - 1), sets[f]);
        }
        due("the ninth", x.where(8, 0), BAD);
    }

    private static void constants() {
        by("\"0\" (holds nowhere); \"1\" (holds everywhere)");
        CoalitionChecker x = new CoalitionChecker(1);
        Boards.readAll(x, "0", "1");
        for (int states = 0; states <= 12; states++) {
            due("0 in " + states, x.where(0, 0), 0);
            due("1 in " + states, x.where(1, 0), (1 << states) - 1);
            x.addState();
        }
    }

    // ---- meaning

    private static void usualMeaning() {
        by("!, &, | have their usual meaning");
        CoalitionChecker x = Boards.with(1, 4);
        x.label(1, 'a', true);
        x.label(3, 'a', true);
        x.label(2, 'b', true);
        x.label(3, 'b', true);
        String[] texts = {"!a", "a&b", "a|b", "!!b", "!(a|b)", "a&!a", "a|!a", "!a&b|a&!b"};
        int[] sets = {5, 8, 14, 12, 1, 0, 15, 6};
        for (int f = 0; f < 8; f++) {
            Boards.read(x, texts[f]);
            due(texts[f], x.where(f, x.parts(f) - 1), sets[f]);
        }
    }

    private static void ranks() {
        by("the union of L0, L1, ...; the rank of a state is the least k such that it is in Lk");
        CoalitionChecker x = Boards.with(1, 12);
        for (int s = 0; s < 11; s++) {
            x.setActions(s, 0, 2);
            x.setMove(s, 1, s + 1);
        }
        Boards.readAll(x, "<0>Fg", "<>Fg");
        due("no goal", x.where(0, 1), 0);
        due("no rank", x.rank(0, 11), NONE);
        x.label(11, 'g', true);
        due("the longest way", x.where(0, 1), 4095);
        due("the greatest rank", x.rank(0, 0), 11);
        due("the least rank", x.rank(0, 11), 0);
        due("nobody", x.where(1, 1), 2048);
        x.label(0, 'g', true);
        due("a goal at once", x.rank(0, 0), 0);
        due("the others' ranks", x.rank(0, 1), 10);
    }

    private static void untilRanks() {
        by("like F with T, but only states of S are added");
        CoalitionChecker x = Boards.chain(1, 12);
        Boards.readAll(x, "<0>(aUg)", "<0>(0Ug)", "<0>(1Ug)", "<0>(1U0)");
        due("no way", x.where(0, 2), 2048);
        for (int s = 10; s >= 0; s--) {
            due("not yet " + s, x.rank(0, s), NONE);
            x.label(s, 'a', true);
            due("the way from " + s, x.rank(0, s), 11 - s);
        }
        due("all", x.where(0, 2), 4095);
        due("no state of S", x.where(1, 2), 2048);
        due("all of S", x.where(2, 2), 4095);
        due("no state of T", x.where(3, 2), 0);
        x.label(10, 'a', false);
        due("a gap before the goal", x.where(0, 2), 2048);
    }

    private static void always() {
        by("the greatest set Z of states of S in each of which A can force Z");
        CoalitionChecker x = Boards.chain(1, 12);
        Boards.readAll(x, "<0>G1", "<0>G!g", "<0>G0", "<0>Gg");
        due("all of S", x.where(0, 1), 4095);
        due("one after another falls out", x.where(1, 2), 0);
        due("no state of S", x.where(2, 1), 0);
        due("the last alone", x.where(3, 1), 2048);
        x.setMove(10, 0, 0);
        due("a ring stays", x.where(1, 2), 2047);
    }

    private static void boxes() {
        by("\"[A]X s\" is \"!<A>X !s\"; \"[A]F s\" is \"!<A>G !s\"; \"[A]G s\" is \"!<A>F !s\"");
        CoalitionChecker x = Boards.lastMove(2);
        String[] agents = {"", "0", "1", "01"};
        for (String a : agents) {
            x.forget();
            Boards.readAll(x, "[" + a + "]Xg", "!<" + a + ">X!g", "[" + a + "]Fg", "!<" + a + ">G!g", "[" + a + "]Gg",
                    "!<" + a + ">F!g");
            for (int f = 0; f < 6; f += 2) {
                due("box " + f + " of " + a, x.where(f, 1), x.where(f + 1, 3));
            }
        }
        x.forget();
        Boards.readAll(x, "[]Xg", "[01]Xg", "[0]X0", "[]X1");
        due("nobody can avoid it, for the others can go there", x.where(0, 1), 3);
        due("all can", x.where(1, 1), 2);
        due("the empty set", x.where(2, 1), 0);
        due("all states", x.where(3, 1), 3);
    }

    private static void boxUntil() {
        by("\"[A](s U t)\" holds in the states of the least set Z");
        CoalitionChecker x = Boards.chain(1, 12);
        Boards.readAll(x, "[0](1Ug)", "[0](0Ug)", "[0](1U0)", "[](aUg)");
        due("the longest way", x.where(0, 2), 4095);
        due("no state of S", x.where(1, 2), 2048);
        due("no state of T", x.where(2, 2), 0);
        due("no state of S yet", x.where(3, 2), 2048);
        x.label(10, 'a', true);
        due("one state of S", x.where(3, 2), 3072);
        x.setActions(10, 0, 2);
        x.setMove(10, 0, 11);
        due("A can stay away", x.where(0, 2), 2048);
        due("nobody cannot", x.where(3, 2), 3072);
    }

    // ---- strategies

    private static void strategies() {
        by("in all other states (for F and U also in those of rank 0) it tells the joint action with the number 0");
        CoalitionChecker x = Boards.with(1, 3);
        x.label(2, 'g', true);
        for (int s = 0; s < 3; s++) {
            x.setActions(s, 0, 3);
        }
        x.setMove(0, 2, 2);
        x.setAll(2, 0, 0, 0);
        x.setAll(2, 0, 1, 1);
        Boards.readAll(x, "<0>Fg", "<0>(1Ug)", "<0>Xg", "<0>Gg", "<0>G!g");
        int[][] told = {{2, 0, 0}, {2, 0, 0}, {2, 0, 2}, {0, 0, 2}, {0, 0, 0}};
        for (int f = 0; f < told.length; f++) {
            for (int s = 0; s < 3; s++) {
                due("formula " + f + " in " + s, x.strategy(f, s), told[f][s]);
            }
        }
        by("in a state of rank k > 0, L(k-1)");
        CoalitionChecker y = Boards.with(1, 4);
        y.label(3, 'g', true);
        y.setActions(0, 0, 3);
        y.setMove(0, 1, 1);
        y.setMove(0, 2, 2);
        y.setMove(1, 0, 2);
        y.setMove(2, 0, 3);
        Boards.readAll(y, "<0>Fg", "<0>(1Ug)");
        due("the shorter way, not the one by state 1", y.strategy(0, 0), 2);
        due("so with U", y.strategy(1, 0), 2);
        due("its rank", y.rank(0, 0), 2);
        CoalitionChecker z = Boards.with(1, 12);
        z.label(0, 'g', true);
        Boards.readAll(z, "<0>Fg", "<0>(1Ug)");
        for (int s = 11; s > 0; s--) {
            z.setActions(s, 0, 3);
            z.setMove(s, 2, s - 1);
        }
        for (int s = 0; s < 12; s++) {
            due("down to state 0 from " + s, z.strategy(0, s), s == 0 ? 0 : 2);
            due("so with U from " + s, z.strategy(1, s), s == 0 ? 0 : 2);
            due("its rank", z.rank(0, s), s);
        }
    }

    private static void plans() {
        by("a choice of an action for each agent in each state, initially 0 for all");
        CoalitionChecker x = Boards.with(4, 12);
        for (int s = 0; s < 12; s++) {
            for (int agent = 0; agent < 4; agent++) {
                due("planned", x.planned(s, agent), 0);
            }
        }
        by("it is changed by hand");
        x.plan(11, 3, 2);
        x.setActions(11, 3, 3);
        due("setActions leaves it", x.planned(11, 3), 2);
        x.setActions(11, 3, 1);
        due("though the action is gone", x.planned(11, 3), 2);
    }

    private static void plansCountForEnforcedAlone() {
        by("enforced: by the definitions above, where \"A can force\" is replaced");
        CoalitionChecker x = Boards.with(1, 2);
        x.label(1, 'g', true);
        x.setActions(0, 0, 2);
        x.setActions(1, 0, 2);
        x.setMove(0, 1, 1);
        x.setMove(1, 1, 0);
        Boards.readAll(x, "<0>Xg", "<0>Fg", "<0>G!g", "<0>(1Ug)", "[0]Xg", "[0]Fg", "[0]Gg", "[0](1Ug)");
        int[] where = {3, 3, 1, 3, 0, 2, 0, 2};
        int[][] enforced = {{2, 2, 1, 2}, {3, 3, 0, 3}, {0, 2, 1, 2}, {1, 3, 0, 3}};
        for (int plan = 0; plan < 4; plan++) {
            x.plan(0, 0, plan & 1);
            x.plan(1, 0, plan >> 1);
            for (int f = 0; f < 8; f++) {
                due("formula " + f + " holds by plan " + plan, x.where(f, x.parts(f) - 1), where[f]);
                due("formula " + f + " by plan " + plan, x.enforced(f), f < 4 ? enforced[plan][f] : FORM);
            }
        }
    }

    private static void actionsThatAreNotThere() {
        by("An action of the plan that an agent does not have in a state counts as 0");
        for (int n = 1; n <= 4; n++) {
            CoalitionChecker x = Boards.with(n, 2);
            x.label(1, 'g', true);
            int last = n - 1;
            x.setActions(0, last, 2);
            x.setAll(0, last, 0, 1);
            Boards.readAll(x, "<" + last + ">Xg", "<" + last + ">Fg", "<" + last + ">(1Ug)", "<" + last + ">Gg");
            int[][] sets = {{3, 3, 3, 2}, {2, 2, 2, 2}, {3, 3, 3, 2}};
            for (int action = 0; action < 3; action++) {
                x.plan(0, last, action);
                for (int f = 0; f < 4; f++) {
                    due("action " + action + ", enforced " + f, x.enforced(f), sets[action][f]);
                    due("action " + action + ", play " + f, x.play(f, 0, 1, 7), action == 1 ? 0 : 1);
                }
            }
            due("it is told as it was planned", x.planned(0, last), 2);
            due("and found so", x.plan(0, last, 2), 2);
            x.setActions(0, last, 3);
            x.setAll(0, last, 0, 1);
            due("once it is there it counts", x.enforced(0), 2);
        }
    }

    // ---- likeness

    private static void likeness() {
        by("for each possible joint action of A in s there is a possible joint action of A in t");
        CoalitionChecker x = Boards.with(1, 4);
        x.label(2, 'g', true);
        x.label(3, 'h', true);
        x.setMove(0, 0, 2);
        x.setActions(1, 0, 3);
        x.setAll(1, 0, 0, 2);
        x.setAll(1, 0, 1, 2);
        x.setAll(1, 0, 2, 2);
        due("one way as three", x.classes(), 3);
        x.setMove(1, 2, 3);
        due("the last of three goes elsewhere", x.classes(), 4);
        x.label(3, 'h', false);
        x.label(3, 'g', true);
        due("to a state that is alike", x.classes(), 2);
    }

    private static void likenessOfOneState() {
        by("states of a class have the same labels");
        CoalitionChecker x = Boards.with(1, 2);
        due("alike", x.classes(), 1);
        for (char letter = 'a'; letter <= 'z'; letter++) {
            x.label(0, letter, true);
            due("a label " + letter, x.classes(), 2);
            due("of its own", x.classOf(1), 1);
            x.label(1, letter, true);
            due("of both " + letter, x.classes(), 1);
            due("of both", x.classOf(1), 0);
        }
        by("the plan and the formulas do not count");
        x.plan(0, 0, 2);
        Boards.read(x, "a");
        due("a plan", x.classes(), 1);
    }

    // ---- history

    private static void edits() {
        by("Each call described as an edit that returns no error adds the state before it");
        for (int edit = 0; edit < 7; edit++) {
            CoalitionChecker x = twoStatesAndOneEdit();
            Boards.read(x, "<0>X1");
            long before = x.fingerprint();
            edit(x, edit);
            long after = x.fingerprint();
            due("something has changed by " + edit, after == before ? 0 : 1, edit == 6 ? 0 : 1);
            due("undo of " + edit, x.undo(), 1);
            due("as before " + edit, x.fingerprint(), before);
        }
        by("an edit that changes nothing adds it too");
        CoalitionChecker y = twoStatesAndOneEdit();
        Boards.read(y, "<0>X1");
        int[] results = {y.setActions(0, 0, 1), y.label(0, 'a', false), y.setMove(0, 0, 0)};
        due("three edits and the first", y.undo(), 3);
        for (int result : results) {
            due("none was an error", result >= 0 ? 1 : 0, 1);
        }
        y.setAll(0, 0, 0, 0);
        due("setAll", y.undo(), 3);
        y.plan(0, 0, 0);
        due("plan", y.undo(), 3);
        y.adopt(0);
        due("adopt", y.undo(), 3);
    }

    private static CoalitionChecker twoStatesAndOneEdit() {
        CoalitionChecker x = Boards.with(1, 5);
        while (x.undo() > 0) {
            continue;
        }
        x.addState();
        return x;
    }

    private static void edit(CoalitionChecker x, int which) {
        switch (which) {
            case 0 -> x.addState();
            case 1 -> x.setActions(0, 0, 3);
            case 2 -> x.label(0, 'a', true);
            case 3 -> x.setMove(0, 0, 1);
            case 4 -> x.setAll(0, 0, 0, 1);
            case 5 -> x.plan(0, 0, 1);
            default -> x.adopt(0);
        }
    }

    private static void noEdits() {
        by("calls that are not described as an edit add nothing");
        CoalitionChecker x = Boards.with(2, 3);
        while (x.undo() > 0) {
            continue;
        }
        Boards.read(x, "<0>Fg");
        x.type('a');
        x.clear();
        x.force(1, 0, 0);
        x.reply(1, 0, 0, 0);
        x.forced(1, 0);
        x.where(0, 1);
        x.holds(0, 0);
        x.counterexample(0, 0);
        x.rank(0, 0);
        x.strategy(0, 0);
        x.planned(0, 0);
        x.enforced(0);
        x.play(0, 0, 5, 5);
        x.smallest(0, 0);
        x.classes();
        x.classOf(0);
        x.fingerprint();
        x.forget();
        due("undo", x.undo(), NONE);
        due("and again", x.undo(), NONE);
    }

    private static void fourStates() {
        by("if there are 4 already, the oldest one is dropped");
        for (int edits = 1; edits <= 9; edits++) {
            CoalitionChecker x = new CoalitionChecker(1);
            long[] prints = new long[10];
            for (int i = 0; i < edits; i++) {
                prints[i] = x.fingerprint();
                x.addState();
            }
            int kept = Math.min(4, edits);
            for (int i = 1; i <= kept; i++) {
                due("undo " + i + " of " + edits, x.undo(), kept - i);
                due("the state before edit " + (edits - i), x.fingerprint(), prints[edits - i]);
            }
            due("no more", x.undo(), NONE);
            due("states", x.states(), edits - kept);
        }
        by("undo() removes the latest one and restores it");
        CoalitionChecker x = Boards.with(1, 5);
        due("undo", x.undo(), 3);
        due("undo", x.undo(), 2);
        x.addState();
        x.label(3, 'a', true);
        x.plan(3, 0, 1);
        due("four are kept again, the oldest was dropped", x.undo(), 3);
        due("the plan", x.planned(3, 0), 0);
        due("undo", x.undo(), 2);
        due("the label", x.labels(3), 0);
        due("undo", x.undo(), 1);
        due("states", x.states(), 3);
        due("undo", x.undo(), 0);
        due("states", x.states(), 2);
        due("no more", x.undo(), NONE);
    }

    private static void formulasStay() {
        by("Formulas stay; where they hold is always told for the structure as it is");
        CoalitionChecker x = new CoalitionChecker(1);
        Boards.readAll(x, "1", "<0>Fa");
        due("no state there yet", x.where(0, 0), 0);
        for (int s = 0; s < 4; s++) {
            x.addState();
            due("1 with " + (s + 1), x.where(0, 0), (2 << s) - 1);
        }
        x.label(3, 'a', true);
        due("F", x.where(1, 1), 8);
        x.setMove(0, 0, 3);
        due("F", x.where(1, 1), 9);
        due("undo", x.undo(), 3);
        due("F", x.where(1, 1), 8);
        x.undo();
        due("F", x.where(1, 1), 0);
        x.undo();
        due("1 with three", x.where(0, 0), 7);
        due("a state that is gone", x.holds(0, 3), BAD);
        x.undo();
        due("formulas", x.formulas(), 2);
        by("the text stays as well");
        Boards.write(x, "<0>");
        x.addState();
        x.undo();
        due("clear", x.clear(), 3);
    }

    private static void labelsGone() {
        by("After a change, formulas may contain labels, which may hold nowhere");
        CoalitionChecker x = Boards.with(1, 2);
        x.label(1, 'z', true);
        Boards.readAll(x, "z", "!z", "<0>Fz", "[0]Gz");
        int[][] with = {{2}, {2, 1}, {2, 2}, {2, 2}};
        int[][] without = {{0}, {0, 3}, {0, 0}, {0, 0}};
        for (int f = 0; f < 4; f++) {
            due("with it", x.where(f, x.parts(f) - 1), with[f][with[f].length - 1]);
        }
        x.label(1, 'z', false);
        for (int f = 0; f < 4; f++) {
            due("without it", x.where(f, x.parts(f) - 1), without[f][without[f].length - 1]);
        }
    }

    // ---- errors

    private static void firstError() {
        by("If several errors apply to a call, the one listed first is returned");
        CoalitionChecker x = Boards.with(1, 1);
        Boards.readAll(x, "[0]X0", "<0>F0", "1", "1", "1", "1", "1", "1");
        Boards.write(x, ")".repeat(60));
        due("type: BAD, FULL", x.type(127), BAD);
        due("type: BAD, FULL", x.type(31), BAD);
        due("type: FULL", x.type(32), FULL);
        due("read: FULL, -100", x.read(), FULL);
        due("rank: BAD, FORM", x.rank(0, 1), BAD);
        due("rank: BAD, FORM, NONE", x.rank(1, 1), BAD);
        due("rank: FORM, NONE", x.rank(0, 0), FORM);
        due("rank: NONE", x.rank(1, 0), NONE);
        due("strategy: BAD, FORM", x.strategy(0, 1), BAD);
        due("strategy: FORM", x.strategy(0, 0), FORM);
        due("adopt: BAD", x.adopt(8), BAD);
        due("adopt: FORM", x.adopt(0), FORM);
        due("enforced: BAD", x.enforced(8), BAD);
        due("enforced: FORM", x.enforced(0), FORM);
        due("play: BAD, FORM", x.play(0, 1, 1, 1), BAD);
        due("play: BAD, FORM", x.play(0, 0, 201, 1), BAD);
        due("play: BAD, FORM", x.play(0, 0, -1, 1), BAD);
        due("play: FORM", x.play(0, 0, 1, 1), FORM);
        due("smallest: BAD, FORM, NONE", x.smallest(0, 1), BAD);
        due("smallest: BAD, NONE", x.smallest(1, 1), BAD);
        due("smallest: FORM, NONE", x.smallest(0, 0), FORM);
        due("smallest: NONE", x.smallest(1, 0), NONE);
        by("BAD where nothing can be asked, though NONE is listed before it (as ../shared/tests has it)");
        due("force", x.force(1, 0, 2), BAD);
        due("force", x.force(2, 0, 0), BAD);
        due("force", x.force(1, 1, 0), BAD);
        due("reply", x.reply(1, 0, 1, 1), BAD);
        due("reply", x.reply(1, 0, 0, 3), BAD);
        due("counterexample", x.counterexample(0, 8), BAD);
    }
}
