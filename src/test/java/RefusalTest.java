import java.util.ArrayList;
import java.util.List;
import java.util.function.Supplier;
import java.util.function.ToIntFunction;

/**
 * "A call that returns an error changes nothing": of two objects made alike, one is asked for what it must
 * refuse; after that both must tell the same. So with calls that only ask.
 */
public final class RefusalTest {
    private static final int BAD = -1;
    private static final int FULL = -2;
    private static final int FORM = -3;
    private static final int NONE = -9;
    private static final int LOW = Integer.MIN_VALUE;
    private static final int HIGH = Integer.MAX_VALUE;
    /** 60 characters, which are a formula; in the shorter one the last character cannot stand there. */
    private static final String SIXTY = "<03>(a&!b|cU[12]G(b|1))" + "&a|b&!c".repeat(5) + "&1";
    private static final String SIXTY_WRONG = "a" + "|b".repeat(29) + ")";

    private static final Asks ASKS = new Asks("RefusalTest");

    private record Call(String told, ToIntFunction<CoalitionChecker> call, int due) {
    }

    private static final List<Call> CALLS = new ArrayList<>();

    private RefusalTest() {
    }

    public static void main(String[] args) {
        nothingYet();
        some();
        full();
        fullTexts();
        questions();
        againAndAgain();
        ASKS.finish();
    }

    private static void answer(int due, String told, ToIntFunction<CoalitionChecker> call) {
        CALLS.add(new Call(told, call, due));
    }

    private static void bad(String told, ToIntFunction<CoalitionChecker> call) {
        answer(BAD, told, call);
    }

    /** Asks the calls gathered so far, each of a new object, and all of them of one more. */
    private static void ask(String sentence, Supplier<CoalitionChecker> maker) {
        ASKS.by(sentence);
        String want = told(maker.get());
        for (Call one : CALLS) {
            CoalitionChecker x = maker.get();
            ASKS.due(one.told, one.call.applyAsInt(x), one.due);
            ASKS.same("what is told after " + one.told, told(x), want);
        }
        CoalitionChecker y = maker.get();
        for (Call one : CALLS) {
            ASKS.due(one.told + " among others", one.call.applyAsInt(y), one.due);
        }
        ASKS.same("what is told after all of them", told(y), want);
        CALLS.clear();
    }

    /** All that an object keeps: structure, plan, formulas, history and text; it is used up by this. */
    private static String told(CoalitionChecker x) {
        StringBuilder told = new StringBuilder();
        told.append(x.agents()).append(" agents, ").append(x.states()).append(" states, ").append(x.fingerprint());
        told.append(", classes ").append(x.classes());
        for (int f = 0; f < x.formulas(); f++) {
            told.append(", formula ").append(f).append(':');
            for (int part = 0; part < x.parts(f); part++) {
                told.append(' ').append(x.where(f, part));
            }
            told.append(' ').append(x.enforced(f));
        }
        told.append(", forgotten ").append(x.forget());
        told.append(", text ").append(x.read()).append(':');
        for (int part = 0; part < x.parts(0); part++) {
            told.append(' ').append(x.where(0, part));
        }
        told.append(" and ").append(x.clear()).append(" left, history");
        for (int i = 0; i < 5; i++) {
            told.append(' ').append(x.undo()).append('/').append(x.fingerprint());
        }
        return told.toString();
    }

    // ---- nothing there yet

    private static void nothingYet() {
        bad("setActions", x -> x.setActions(0, 0, 1));
        bad("actions", x -> x.actions(0, 0));
        bad("label", x -> x.label(0, 'a', true));
        bad("labels", x -> x.labels(0));
        bad("setMove", x -> x.setMove(0, 0, 0));
        bad("setAll", x -> x.setAll(0, 0, 0, 0));
        bad("next", x -> x.next(0, 0));
        bad("moves", x -> x.moves(0));
        bad("force", x -> x.force(0, 0, 0));
        bad("reply", x -> x.reply(0, 0, 0, 0));
        bad("forced", x -> x.forced(0, 0));
        bad("type", x -> x.type(31));
        answer(-100, "read", CoalitionChecker::read);
        bad("parts", x -> x.parts(0));
        bad("where", x -> x.where(0, 0));
        bad("holds", x -> x.holds(0, 0));
        bad("counterexample", x -> x.counterexample(0, 0));
        bad("rank", x -> x.rank(0, 0));
        bad("strategy", x -> x.strategy(0, 0));
        bad("plan", x -> x.plan(0, 0, 0));
        bad("adopt", x -> x.adopt(0));
        bad("planned", x -> x.planned(0, 0));
        bad("enforced", x -> x.enforced(0));
        bad("play", x -> x.play(0, 0, 0, 0));
        bad("smallest", x -> x.smallest(0, 0));
        bad("classOf", x -> x.classOf(0));
        answer(NONE, "undo", CoalitionChecker::undo);
        ask("changes nothing of a new object", () -> new CoalitionChecker(2));
    }

    // ---- a structure with a little of everything

    private static CoalitionChecker little() {
        CoalitionChecker x = Boards.with(2, 3);
        x.label(2, 'g', true);
        x.setActions(0, 0, 2);
        x.setActions(0, 1, 3);
        x.setActions(1, 1, 2);
        x.setMove(0, 4, 2);
        x.setMove(0, 1, 1);
        x.plan(0, 0, 1);
        x.plan(1, 1, 2);
        Boards.readAll(x, "<01>Fg", "[0]Gg", "g", "<>F0");
        Boards.write(x, "<0>X(a|");
        return x;
    }

    private static void some() {
        refusedEdits();
        refusedQuestions();
        answer(-107, "read", CoalitionChecker::read);
        ask("changes nothing of a structure with three states", RefusalTest::little);
    }

    private static void refusedEdits() {
        for (int state : new int[] {-1, 3, 11, 12, LOW, HIGH}) {
            bad("setActions in " + state, x -> x.setActions(state, 0, 3));
            bad("label of " + state, x -> x.label(state, 'b', true));
            bad("setMove in " + state, x -> x.setMove(state, 0, 1));
            bad("setMove to " + state, x -> x.setMove(0, 0, state));
            bad("setAll in " + state, x -> x.setAll(state, 0, 0, 1));
            bad("setAll to " + state, x -> x.setAll(0, 0, 0, state));
            bad("plan in " + state, x -> x.plan(state, 0, 1));
        }
        for (int agent : new int[] {-1, 2, 3, 4, 5, LOW, HIGH}) {
            bad("setActions of " + agent, x -> x.setActions(0, agent, 3));
            bad("setAll of " + agent, x -> x.setAll(0, agent, 0, 1));
            bad("plan of " + agent, x -> x.plan(0, agent, 1));
        }
        for (int n : new int[] {0, -1, 4, LOW, HIGH}) {
            bad("setActions to " + n, x -> x.setActions(0, 0, n));
        }
        for (int letter : new int[] {'a' - 1, 'z' + 1, 0, 1, 'A', LOW, HIGH}) {
            bad("label " + letter, x -> x.label(0, letter, true));
            bad("no label " + letter, x -> x.label(2, letter, false));
        }
        for (int move : new int[] {-1, 2, 5, 8, 9, 27, 80, 81, LOW, HIGH}) {
            bad("setMove " + move, x -> x.setMove(0, move, 1));
        }
        for (int action : new int[] {-1, 2, 3, LOW, HIGH}) {
            bad("setAll by " + action, x -> x.setAll(0, 0, action, 1));
        }
        for (int action : new int[] {-1, 3, LOW, HIGH}) {
            bad("plan " + action, x -> x.plan(0, 0, action));
        }
        for (int c : new int[] {31, 127, 0, -1, LOW, HIGH}) {
            bad("type " + c, x -> x.type(c));
        }
        for (int formula : new int[] {-1, 4, 7, 8, LOW, HIGH}) {
            bad("adopt " + formula, x -> x.adopt(formula));
        }
        answer(FORM, "adopt a box", x -> x.adopt(1));
        answer(FORM, "adopt a letter", x -> x.adopt(2));
    }

    private static void refusedQuestions() {
        for (int state : new int[] {-1, 3, 12, LOW, HIGH}) {
            bad("actions in " + state, x -> x.actions(state, 0));
            bad("labels of " + state, x -> x.labels(state));
            bad("next in " + state, x -> x.next(state, 0));
            bad("moves in " + state, x -> x.moves(state));
            bad("force in " + state, x -> x.force(1, state, 1));
            bad("reply in " + state, x -> x.reply(1, state, 0, 1));
            bad("forced in " + state, x -> x.forced(1, state));
            bad("holds in " + state, x -> x.holds(0, state));
            bad("rank in " + state, x -> x.rank(0, state));
            bad("strategy in " + state, x -> x.strategy(0, state));
            bad("planned in " + state, x -> x.planned(state, 0));
            bad("play in " + state, x -> x.play(0, state, 1, 1));
            bad("smallest in " + state, x -> x.smallest(0, state));
            bad("classOf " + state, x -> x.classOf(state));
        }
        for (int formula : new int[] {-1, 4, 8, LOW, HIGH}) {
            bad("parts of " + formula, x -> x.parts(formula));
            bad("where of " + formula, x -> x.where(formula, 0));
            bad("where of part " + formula, x -> x.where(0, formula));
            bad("holds of " + formula, x -> x.holds(formula, 0));
            bad("counterexample of " + formula, x -> x.counterexample(formula, 0));
            bad("counterexample to " + formula, x -> x.counterexample(0, formula));
            bad("rank of " + formula, x -> x.rank(formula, 0));
            bad("strategy of " + formula, x -> x.strategy(formula, 0));
            bad("enforced of " + formula, x -> x.enforced(formula));
            bad("play of " + formula, x -> x.play(formula, 0, 1, 1));
            bad("smallest of " + formula, x -> x.smallest(formula, 0));
        }
        for (int many : new int[] {-1, 4, 16, 201, LOW, HIGH}) {
            bad("force of " + many, x -> x.force(many, 0, 1));
            bad("reply of " + many, x -> x.reply(many, 0, 0, 1));
            bad("forced of " + many, x -> x.forced(many, 0));
            bad("actions of " + many, x -> x.actions(0, many));
            bad("planned of " + many, x -> x.planned(0, many));
        }
        for (int set : new int[] {-1, 8, 15, 4096, LOW, HIGH}) {
            bad("force to " + set, x -> x.force(1, 0, set));
            bad("reply to " + set, x -> x.reply(1, 0, 0, set));
        }
        for (int action : new int[] {-1, 2, 3, 4, 81, LOW, HIGH}) {
            bad("reply to the action " + action, x -> x.reply(1, 0, action, 1));
        }
        for (int move : new int[] {-1, 2, 9, 81, LOW, HIGH}) {
            bad("next by " + move, x -> x.next(0, move));
        }
        for (int rounds : new int[] {-1, 201, LOW, HIGH}) {
            bad(rounds + " rounds", x -> x.play(0, 0, rounds, 1));
        }
        answer(FORM, "rank of a box", x -> x.rank(1, 0));
        answer(FORM, "strategy of a box", x -> x.strategy(1, 0));
        answer(FORM, "enforced of a box", x -> x.enforced(1));
        answer(FORM, "play of a letter", x -> x.play(2, 0, 9, 1));
        answer(FORM, "smallest of a letter", x -> x.smallest(2, 0));
        answer(NONE, "rank", x -> x.rank(3, 0));
        answer(NONE, "smallest", x -> x.smallest(3, 0));
        answer(NONE, "force", x -> x.force(0, 0, 1));
        answer(NONE, "reply", x -> x.reply(1, 0, 1, 7));
        answer(NONE, "counterexample", x -> x.counterexample(0, 0));
    }

    // ---- no room for more

    private static CoalitionChecker crowded() {
        CoalitionChecker x = Boards.with(4, 12);
        x.label(0, 'a', true);
        x.label(11, 'b', true);
        x.label(5, 'c', true);
        for (int agent = 0; agent < 4; agent++) {
            x.setActions(11, agent, 3);
            x.setAll(11, agent, agent % 3, agent);
            x.plan(11, agent, 2);
        }
        x.setMove(11, 80, 5);
        Boards.readAll(x, "<01>Fa", "[2]G!b", "<>X1", "c", "<3>(1Ua)", "!a", "0", "<0123>F0");
        Boards.write(x, SIXTY);
        return x;
    }

    private static void full() {
        answer(FULL, "addState", CoalitionChecker::addState);
        answer(FULL, "type", x -> x.type('a'));
        answer(FULL, "type a blank", x -> x.type(32));
        bad("type 127", x -> x.type(127));
        answer(FULL, "read", CoalitionChecker::read);
        bad("parts of a ninth", x -> x.parts(8));
        bad("adopt a ninth", x -> x.adopt(8));
        bad("label of a thirteenth", x -> x.label(12, 'a', true));
        bad("setMove to a thirteenth", x -> x.setMove(11, 0, 12));
        bad("setMove by an 82nd", x -> x.setMove(11, 81, 0));
        bad("setActions of a fifth", x -> x.setActions(11, 4, 1));
        bad("setActions to four", x -> x.setActions(11, 3, 4));
        bad("plan of a fifth", x -> x.plan(10, 4, 1));
        bad("setAll of a fifth", x -> x.setAll(10, 4, 0, 1));
        bad("force to a thirteenth", x -> x.force(15, 11, 4096));
        bad("force of a seventeenth", x -> x.force(16, 11, 1));
        answer(NONE, "rank", x -> x.rank(7, 11));
        ASKS.by("the text of the test");
        ASKS.due("its length", SIXTY.length(), 60);
        ask("changes nothing of a structure that is full", RefusalTest::crowded);
    }

    private static CoalitionChecker text(String text, int formulas) {
        CoalitionChecker x = Boards.with(4, 2);
        x.label(1, 'b', true);
        for (int f = 0; f < formulas; f++) {
            Boards.read(x, f % 2 == 0 ? "b" : "<0>F!b");
        }
        Boards.write(x, text);
        return x;
    }

    private static void fullTexts() {
        for (int formulas : new int[] {0, 7}) {
            answer(-159, "read", CoalitionChecker::read);
            answer(FULL, "type", x -> x.type('b'));
            ask("a read of no formula changes nothing, after " + formulas, () -> text(SIXTY_WRONG, formulas));
            answer(-160, "read", CoalitionChecker::read);
            ask("a read of half a formula changes nothing, after " + formulas, () -> text("(".repeat(60), formulas));
            answer(-102, "read", CoalitionChecker::read);
            ask("a read of a short one changes nothing, after " + formulas, () -> text("b|", formulas));
        }
        for (String text : new String[] {"", "b", "b)", "<0>Xb"}) {
            answer(FULL, "read", CoalitionChecker::read);
            ask("a read beside eight formulas changes nothing of " + text, () -> text(text, 8));
        }
    }

    // ---- calls that only ask

    private static void questions() {
        answer(2, "agents", CoalitionChecker::agents);
        answer(3, "states", CoalitionChecker::states);
        answer(3, "actions", x -> x.actions(0, 1));
        answer(64, "labels", x -> x.labels(2));
        answer(2, "next", x -> x.next(0, 4));
        answer(6, "moves", x -> x.moves(0));
        answer(4, "force", x -> x.force(3, 0, 4));
        answer(1, "reply", x -> x.reply(1, 0, 1, 4));
        answer(1, "forced", x -> x.forced(0, 0));
        answer(4, "formulas", CoalitionChecker::formulas);
        answer(2, "parts", x -> x.parts(0));
        answer(5, "where", x -> x.where(0, 1));
        answer(1, "holds", x -> x.holds(0, 0));
        answer(0, "counterexample", x -> x.counterexample(0, 2));
        answer(1, "rank", x -> x.rank(0, 0));
        answer(4, "strategy", x -> x.strategy(0, 0));
        answer(2, "planned", x -> x.planned(1, 1));
        answer(4, "enforced", x -> x.enforced(0));
        answer(1, "play", x -> x.play(0, 0, 200, 3));
        answer(3, "smallest", x -> x.smallest(0, 0));
        answer(3, "classes", CoalitionChecker::classes);
        answer(2, "classOf", x -> x.classOf(2));
        ask("a call that only asks changes nothing", RefusalTest::little);
    }

    // ---- refused again and again

    private static void againAndAgain() {
        ASKS.by("a refused call changes nothing, however often it comes");
        for (String text : new String[] {"(a&b|c", "<0>(a&!b", "[0]X<0>(aU", "a&b|c)", ""}) {
            CoalitionChecker x = Boards.with(1, 1);
            int due = Boards.read(x, text);
            for (int i = 0; i < 120; i++) {
                ASKS.due("read of " + text, x.read(), due);
            }
            ASKS.due("formulas", x.formulas(), 0);
            ASKS.due("the text", x.clear(), text.length());
            x.label(0, 'b', true);
            ASKS.due("a formula", Boards.read(x, "!(a&b)|<0>(aUb)&0"), 0);
            int[] sets = {0, 1, 0, 1, 0, 1, 1, 0, 0, 1};
            ASKS.due("its parts", x.parts(0), sets.length);
            for (int part = 0; part < sets.length; part++) {
                ASKS.due("part " + part, x.where(0, part), sets[part]);
            }
        }
        ASKS.by("FULL and NONE, however often they come");
        CoalitionChecker y = Boards.with(1, 12);
        for (int i = 0; i < 100; i++) {
            ASKS.due("addState", y.addState(), FULL);
            ASKS.due("label", y.label(12, 'a', true), BAD);
        }
        for (int left = 3; left >= 0; left--) {
            ASKS.due("undo", y.undo(), left);
        }
        for (int i = 0; i < 100; i++) {
            ASKS.due("undo", y.undo(), NONE);
        }
        ASKS.due("states", y.states(), 8);
        y.addState();
        ASKS.due("undo", y.undo(), 0);
        Boards.write(y, SIXTY);
        for (int i = 0; i < 60; i++) {
            ASKS.due("type", y.type('a'), FULL);
        }
        ASKS.due("the text", y.clear(), 60);
    }
}
