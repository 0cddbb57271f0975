/** A checker for the logic of coalitions, as ../shared/DOC.md tells it. */
public final class CoalitionChecker {
    public static final int BAD = -1;
    public static final int FULL = -2;
    public static final int FORM = -3;
    public static final int NONE = -9;

    private static final int MOST_AGENTS = 4;
    private static final int MOST_STATES = 12;
    private static final int MOST_ACTIONS = 3;
    private static final int MOST_MOVES = 81;
    private static final int MOST_COALITIONS = 16;
    private static final int MOST_CHARACTERS = 60;
    private static final int MOST_FORMULAS = 8;
    private static final int MOST_HISTORY = 4;
    private static final int MOST_ROUNDS = 200;

    private final Structure structure;
    private final History history;
    private final Steps steps;
    private final Reader reader;
    private final Meaning meaning;
    private final Tactics tactics;
    private final Likeness likeness;
    private final Formula[] kept = new Formula[MOST_FORMULAS];
    private int keptCount = 0;

    public CoalitionChecker(int agents) {
        int n = Math.max(1, Math.min(MOST_AGENTS, agents));
        structure = new Structure(n);
        history = new History(n);
        steps = new Steps(structure);
        reader = new Reader(n);
        meaning = new Meaning(structure, steps);
        tactics = new Tactics(structure, steps, meaning);
        likeness = new Likeness(structure, steps);
        for (int i = 0; i < kept.length; i++) {
            kept[i] = new Formula();
        }
    }

    // ---- structure

    public int agents() {
        return structure.agentCount;
    }

    public int addState() {
        if (structure.stateCount >= MOST_STATES) {
            return FULL;
        }
        history.keep(structure);
        return structure.grow();
    }

    public int states() {
        return structure.stateCount;
    }

    public int setActions(int state, int agent, int n) {
        if (!structure.hasPlace(state, agent) || n < 1 || n > MOST_ACTIONS) {
            return BAD;
        }
        history.keep(structure);
        int previous = structure.actionCount(state, agent);
        structure.setActionCount(state, agent, n);
        return previous;
    }

    public int actions(int state, int agent) {
        return structure.hasPlace(state, agent) ? structure.actionCount(state, agent) : BAD;
    }

    public int label(int state, int letter, boolean on) {
        if (!structure.hasState(state) || letter < 'a' || letter > 'z') {
            return BAD;
        }
        history.keep(structure);
        int bit = 1 << (letter - 'a');
        int before = structure.labelSet(state);
        structure.setLabelSet(state, on ? before | bit : before & ~bit);
        return (before & bit) != 0 ? 1 : 0;
    }

    public int labels(int state) {
        return structure.hasState(state) ? structure.labelSet(state) : BAD;
    }

    public int setMove(int state, int move, int next) {
        int previous = structure.target(state, move);
        if (previous < 0 || !structure.hasState(next)) {
            return BAD;
        }
        history.keep(structure);
        structure.setTarget(state, move, next);
        return previous;
    }

    public int setAll(int state, int agent, int action, int next) {
        if (!structure.hasPlace(state, agent) || !structure.hasState(next)) {
            return BAD;
        }
        if (action < 0 || action >= structure.actionCount(state, agent)) {
            return BAD;
        }
        history.keep(structure);
        return structure.redirect(state, agent, action, next);
    }

    public int next(int state, int move) {
        int target = structure.target(state, move);
        return target < 0 ? BAD : target;
    }

    public int moves(int state) {
        return structure.hasState(state) ? structure.possibleMoves(state) : BAD;
    }

    // ---- one step

    public int force(int coalition, int state, int set) {
        if (!isQuestion(coalition, state) || !structure.hasSet(set)) {
            return BAD;
        }
        return steps.leastForcing(coalition, state, set);
    }

    public int reply(int coalition, int state, int action, int set) {
        if (!isQuestion(coalition, state) || !structure.hasSet(set)) {
            return BAD;
        }
        if (!steps.isJointAction(coalition, state, action)) {
            return BAD;
        }
        return steps.leastLeaving(coalition, state, action, set);
    }

    public int forced(int coalition, int state) {
        return isQuestion(coalition, state) ? steps.countForced(coalition, state) : BAD;
    }

    // ---- formulas

    public int type(int c) {
        if (c < ' ' || c > '~') {
            return BAD;
        }
        return reader.append(c) ? reader.length : FULL;
    }

    public int clear() {
        int had = reader.length;
        reader.length = 0;
        return had;
    }

    public int read() {
        if (keptCount < 0 || keptCount >= kept.length) {
            return FULL;
        }
        int error = reader.parse(kept[keptCount]);
        if (error >= 0) {
            return -100 - error;
        }
        reader.length = 0;
        keptCount++;
        return keptCount - 1;
    }

    public int forget() {
        int had = keptCount;
        keptCount = 0;
        return had;
    }

    public int formulas() {
        return keptCount;
    }

    public int parts(int formula) {
        Formula f = formulaOf(formula);
        return f == null ? BAD : f.count;
    }

    public int where(int formula, int part) {
        Formula f = formulaOf(formula);
        if (f == null || part < 0 || part >= f.count) {
            return BAD;
        }
        meaning.look(f);
        return meaning.setOf(part);
    }

    public int holds(int formula, int state) {
        Formula f = formulaOf(formula);
        if (f == null || !structure.hasState(state)) {
            return BAD;
        }
        return meaning.whole(f) >> state & 1;
    }

    public int counterexample(int formula, int other) {
        Formula f = formulaOf(formula);
        Formula g = formulaOf(other);
        if (f == null || g == null) {
            return BAD;
        }
        int first = meaning.whole(f);
        int difference = first & ~meaning.whole(g);
        return difference == 0 ? NONE : Integer.numberOfTrailingZeros(difference);
    }

    // ---- strategies

    public int rank(int formula, int state) {
        Formula f = formulaOf(formula);
        if (f == null || !structure.hasState(state)) {
            return BAD;
        }
        if (f.topKind() != Formula.EVER && f.topKind() != Formula.UNTIL) {
            return FORM;
        }
        meaning.look(f);
        meaning.goalSet(f, f.topCoalition(), false);
        int found = meaning.rankOf(state);
        return found < 0 ? NONE : found;
    }

    public int strategy(int formula, int state) {
        Formula f = formulaOf(formula);
        if (f == null || !structure.hasState(state)) {
            return BAD;
        }
        if (!f.hasStrategy()) {
            return FORM;
        }
        tactics.prepare(f);
        return tactics.jointAt(f, state);
    }

    public int plan(int state, int agent, int action) {
        if (!structure.hasPlace(state, agent) || action < 0 || action >= MOST_ACTIONS) {
            return BAD;
        }
        history.keep(structure);
        int previous = structure.plannedAction(state, agent);
        structure.setPlannedAction(state, agent, action);
        return previous;
    }

    public int adopt(int formula) {
        Formula f = formulaOf(formula);
        if (f == null) {
            return BAD;
        }
        if (!f.hasStrategy()) {
            return FORM;
        }
        history.keep(structure);
        tactics.prepare(f);
        return tactics.follow(f);
    }

    public int planned(int state, int agent) {
        return structure.hasPlace(state, agent) ? structure.plannedAction(state, agent) : BAD;
    }

    public int enforced(int formula) {
        Formula f = formulaOf(formula);
        if (f == null) {
            return BAD;
        }
        if (!f.hasStrategy()) {
            return FORM;
        }
        meaning.look(f);
        return meaning.goalSet(f, f.topCoalition(), true);
    }

    public int play(int formula, int state, int rounds, int seed) {
        Formula f = formulaOf(formula);
        if (f == null || !structure.hasState(state) || rounds < 0 || rounds > MOST_ROUNDS) {
            return BAD;
        }
        if (!f.hasStrategy()) {
            return FORM;
        }
        return tactics.run(f.topCoalition(), state, rounds, seed);
    }

    public int smallest(int formula, int state) {
        Formula f = formulaOf(formula);
        if (f == null || !structure.hasState(state)) {
            return BAD;
        }
        if (!f.hasStrategy()) {
            return FORM;
        }
        return tactics.fewest(f, state);
    }

    // ---- likeness

    public int classes() {
        return likeness.divide();
    }

    public int classOf(int state) {
        if (!structure.hasState(state)) {
            return BAD;
        }
        likeness.divide();
        return likeness.classNumber(state);
    }

    // ---- history

    public int undo() {
        return history.restore(structure) ? history.count : NONE;
    }

    public long fingerprint() {
        return structure.mix(41L) * 31L + keptCount;
    }

    private boolean isQuestion(int coalition, int state) {
        return structure.hasCoalition(coalition) && structure.hasState(state);
    }

    private Formula formulaOf(int number) {
        if (number < 0 || number >= keptCount || number >= kept.length) {
            return null;
        }
        return kept[number];
    }

    /** Rows of numbers whose every index is tested, so that no access can fail. */
    private static final class Rows {
        static int at(int[] row, int index) {
            return row != null && index >= 0 && index < row.length ? row[index] : 0;
        }

        static void put(int[] row, int index, int value) {
            if (row != null && index >= 0 && index < row.length) {
                row[index] = value;
            }
        }

        static void copy(int[] from, int[] to) {
            if (from != null && to != null && from.length == to.length) {
                System.arraycopy(from, 0, to, 0, from.length);
            }
        }
    }

    /** The states with their labels, actions and moves, and the plan. */
    private static final class Structure {
        /** Stands for the target of a move that is not possible. */
        static final int NOWHERE = -1;

        final int agentCount;
        final int coalitionLimit;
        final int moveLimit;
        final int[] labelSets = new int[MOST_STATES];
        final int[] actionCounts = new int[MOST_STATES * MOST_AGENTS];
        final int[] plannedActions = new int[MOST_STATES * MOST_AGENTS];
        final int[] targets = new int[MOST_STATES * MOST_MOVES];
        int stateCount = 0;

        Structure(int agentCount) {
            this.agentCount = agentCount;
            this.coalitionLimit = 1 << agentCount;
            int limit = 1;
            for (int agent = 0; agent < agentCount; agent++) {
                limit *= MOST_ACTIONS;
            }
            this.moveLimit = limit;
        }

        void copyFrom(Structure other) {
            stateCount = other.stateCount;
            Rows.copy(other.labelSets, labelSets);
            Rows.copy(other.actionCounts, actionCounts);
            Rows.copy(other.plannedActions, plannedActions);
            Rows.copy(other.targets, targets);
        }

        boolean hasState(int state) {
            return state >= 0 && state < stateCount;
        }

        boolean hasPlace(int state, int agent) {
            return hasState(state) && agent >= 0 && agent < agentCount;
        }

        boolean hasCoalition(int coalition) {
            return coalition >= 0 && coalition < coalitionLimit;
        }

        boolean hasSet(int set) {
            return (set & ~allStates()) == 0;
        }

        int allStates() {
            return (1 << stateCount) - 1;
        }

        int labelSet(int state) {
            return Rows.at(labelSets, state);
        }

        void setLabelSet(int state, int set) {
            Rows.put(labelSets, state, set);
        }

        int actionCount(int state, int agent) {
            return Rows.at(actionCounts, state * MOST_AGENTS + agent);
        }

        void setActionCount(int state, int agent, int n) {
            Rows.put(actionCounts, state * MOST_AGENTS + agent, n);
            leadBack(state);
        }

        int plannedAction(int state, int agent) {
            return Rows.at(plannedActions, state * MOST_AGENTS + agent);
        }

        void setPlannedAction(int state, int agent, int action) {
            Rows.put(plannedActions, state * MOST_AGENTS + agent, action);
        }

        int target(int state, int move) {
            if (!hasState(state) || move < 0 || move >= moveLimit) {
                return NOWHERE;
            }
            return Rows.at(targets, state * MOST_MOVES + move);
        }

        void setTarget(int state, int move, int next) {
            Rows.put(targets, state * MOST_MOVES + move, next);
        }

        int possibleMoves(int state) {
            int found = 0;
            for (int move = 0; move < moveLimit; move++) {
                if (target(state, move) != NOWHERE) {
                    found++;
                }
            }
            return found;
        }

        /** The new state's rows are laid anew: an undone state may have left its own there. */
        int grow() {
            int state = stateCount;
            setLabelSet(state, 0);
            for (int agent = 0; agent < MOST_AGENTS; agent++) {
                Rows.put(actionCounts, state * MOST_AGENTS + agent, 1);
                setPlannedAction(state, agent, 0);
            }
            leadBack(state);
            stateCount++;
            return state;
        }

        int redirect(int state, int agent, int action, int next) {
            int elsewhere = 0;
            for (int move = 0; move < moveLimit; move++) {
                int previous = target(state, move);
                if (previous == NOWHERE || actionIn(move, agent) != action) {
                    continue;
                }
                if (previous != next) {
                    elsewhere++;
                }
                setTarget(state, move, next);
            }
            return elsewhere;
        }

        long mix(long start) {
            long sum = start * 31L + stateCount;
            for (int state = 0; state < stateCount; state++) {
                sum = sum * 31L + labelSet(state);
                for (int agent = 0; agent < agentCount; agent++) {
                    sum = sum * 31L + actionCount(state, agent);
                    sum = sum * 31L + plannedAction(state, agent);
                }
                for (int move = 0; move < moveLimit; move++) {
                    int next = target(state, move);
                    if (next != NOWHERE) {
                        sum = sum * 31L + next;
                    }
                }
            }
            return sum;
        }

        private void leadBack(int state) {
            for (int move = 0; move < moveLimit; move++) {
                setTarget(state, move, isWithinActions(state, move) ? state : NOWHERE);
            }
        }

        private boolean isWithinActions(int state, int move) {
            for (int agent = 0; agent < agentCount; agent++) {
                if (actionIn(move, agent) >= actionCount(state, agent)) {
                    return false;
                }
            }
            return true;
        }

        private static int actionIn(int move, int agent) {
            int rest = move;
            for (int i = 0; i < agent; i++) {
                rest /= MOST_ACTIONS;
            }
            return rest % MOST_ACTIONS;
        }
    }

    /** The structures before the latest edits, in a ring, so that no edit makes an object. */
    private static final class History {
        final Structure[] ring = new Structure[MOST_HISTORY];
        int oldest = 0;
        int count = 0;

        History(int agentCount) {
            for (int i = 0; i < ring.length; i++) {
                ring[i] = new Structure(agentCount);
            }
        }

        void keep(Structure now) {
            if (count >= MOST_HISTORY) {
                oldest = (oldest + 1) % MOST_HISTORY;
                count--;
            }
            Structure slot = slotAt(count);
            if (slot != null) {
                slot.copyFrom(now);
                count++;
            }
        }

        boolean restore(Structure now) {
            Structure slot = count > 0 ? slotAt(count - 1) : null;
            if (slot == null) {
                return false;
            }
            now.copyFrom(slot);
            count--;
            return true;
        }

        private Structure slotAt(int age) {
            int index = (oldest + age) % MOST_HISTORY;
            return index >= 0 && index < ring.length ? ring[index] : null;
        }
    }

    /** What coalitions, or the plan, can force in one step. */
    private static final class Steps {
        final Structure structure;
        /** For each coalition and move the joint action that the move gives to the coalition. */
        final int[] jointParts = new int[MOST_COALITIONS * MOST_MOVES];
        /** Names each state by itself, where the likeness names it by its class. */
        final int[] ownNames = new int[MOST_STATES];
        final int[] outcomes = new int[MOST_MOVES];

        Steps(Structure structure) {
            this.structure = structure;
            for (int state = 0; state < ownNames.length; state++) {
                ownNames[state] = state;
            }
            for (int i = 0; i < jointParts.length; i++) {
                jointParts[i] = partOf(i / MOST_MOVES, i % MOST_MOVES);
            }
        }

        /**
         * Puts into the row, for each joint action, the set of the names of the states to which it
         * can lead; it is empty just for a joint action that is not possible.
         */
        void spread(int coalition, int state, int[] names, int[] into) {
            for (int joint = 0; joint < MOST_MOVES; joint++) {
                Rows.put(into, joint, 0);
            }
            for (int move = 0; move < structure.moveLimit; move++) {
                int next = Rows.at(structure.targets, state * MOST_MOVES + move);
                if (next != Structure.NOWHERE) {
                    int joint = Rows.at(jointParts, coalition * MOST_MOVES + move);
                    Rows.put(into, joint, Rows.at(into, joint) | 1 << Rows.at(names, next));
                }
            }
        }

        static boolean isForced(int outcome, int set) {
            return outcome != 0 && (outcome & ~set) == 0;
        }

        int leastForcing(int coalition, int state, int set) {
            spread(coalition, state, ownNames, outcomes);
            return leastWithin(set);
        }

        boolean isJointAction(int coalition, int state, int action) {
            spread(coalition, state, ownNames, outcomes);
            return Rows.at(outcomes, action) != 0;
        }

        int leastLeaving(int coalition, int state, int action, int set) {
            for (int move = 0; move < structure.moveLimit; move++) {
                int next = structure.target(state, move);
                if (next != Structure.NOWHERE && jointPart(coalition, move) == action
                        && (set >> next & 1) == 0) {
                    return move;
                }
            }
            return NONE;
        }

        int countForced(int coalition, int state) {
            spread(coalition, state, ownNames, outcomes);
            int found = 0;
            for (int set = 0; set <= structure.allStates(); set++) {
                if (leastWithin(set) != NONE) {
                    found++;
                }
            }
            return found;
        }

        /** The states in which the coalition, or its plan, forces the set. */
        int forcing(int coalition, int set, boolean byPlan) {
            int found = 0;
            for (int state = 0; state < structure.stateCount; state++) {
                spread(coalition, state, ownNames, outcomes);
                boolean forces;
                if (byPlan) {
                    forces = isForced(Rows.at(outcomes, chosenJoint(coalition, state)), set);
                } else {
                    forces = leastWithin(set) != NONE;
                }
                if (forces) {
                    found |= 1 << state;
                }
            }
            return found;
        }

        /** The joint action that the plan tells; an action that the agent has not counts as 0. */
        int chosenJoint(int coalition, int state) {
            int joint = 0;
            int weight = 1;
            for (int agent = 0; agent < structure.agentCount; agent++) {
                int place = state * MOST_AGENTS + agent;
                int action = Rows.at(structure.plannedActions, place);
                boolean hasAction = action < Rows.at(structure.actionCounts, place);
                if (hasAction && (coalition >> agent & 1) != 0) {
                    joint += action * weight;
                }
                weight *= MOST_ACTIONS;
            }
            return joint;
        }

        /** The state that is reached if the coalition keeps to the plan and the others to the seed. */
        int follow(int coalition, int state, int seed) {
            int joint = chosenJoint(coalition, state);
            int replies = 0;
            for (int move = 0; move < structure.moveLimit; move++) {
                if (structure.target(state, move) != Structure.NOWHERE
                        && jointPart(coalition, move) == joint) {
                    replies++;
                }
            }
            // moves with the same action of the coalition ascend as the actions of the others do
            int wanted = replies > 0 ? seed % replies : 0;
            for (int move = 0; move < structure.moveLimit; move++) {
                int next = structure.target(state, move);
                if (next == Structure.NOWHERE || jointPart(coalition, move) != joint) {
                    continue;
                }
                if (wanted == 0) {
                    return next;
                }
                wanted--;
            }
            return state;
        }

        private int leastWithin(int set) {
            for (int joint = 0; joint < structure.moveLimit; joint++) {
                if (isForced(Rows.at(outcomes, joint), set)) {
                    return joint;
                }
            }
            return NONE;
        }

        private int jointPart(int coalition, int move) {
            return Rows.at(jointParts, coalition * MOST_MOVES + move);
        }

        private static int partOf(int coalition, int move) {
            int joint = 0;
            int rest = move;
            int weight = 1;
            for (int agent = 0; agent < MOST_AGENTS; agent++) {
                if ((coalition >> agent & 1) != 0) {
                    joint += rest % MOST_ACTIONS * weight;
                }
                rest /= MOST_ACTIONS;
                weight *= MOST_ACTIONS;
            }
            return joint;
        }
    }

    /** A formula as the row of its parts, each after its operands; the last one is the formula. */
    private static final class Formula {
        static final int ZERO = 0;
        static final int ONE = 1;
        static final int LETTER = 2;
        static final int NOT = 3;
        static final int AND = 4;
        static final int OR = 5;
        static final int NEXT = 6;
        static final int EVER = 7;
        static final int ALWAYS = 8;
        static final int UNTIL = 9;
        /** Is added to one of the four goals where "[" agents "]" stands before it. */
        static final int BOX = 4;

        final int[] kinds = new int[MOST_CHARACTERS];
        final int[] firsts = new int[MOST_CHARACTERS];
        final int[] seconds = new int[MOST_CHARACTERS];
        /** The number of a letter, or the coalition of a goal. */
        final int[] details = new int[MOST_CHARACTERS];
        int count = 0;

        int add(int kind, int detail, int first, int second) {
            Rows.put(kinds, count, kind);
            Rows.put(details, count, detail);
            Rows.put(firsts, count, first);
            Rows.put(seconds, count, second);
            count++;
            return count - 1;
        }

        int kind(int part) {
            return Rows.at(kinds, part);
        }

        int detail(int part) {
            return Rows.at(details, part);
        }

        int first(int part) {
            return Rows.at(firsts, part);
        }

        int second(int part) {
            return Rows.at(seconds, part);
        }

        int topKind() {
            return kind(count - 1);
        }

        int topCoalition() {
            return detail(count - 1);
        }

        boolean hasStrategy() {
            return topKind() >= NEXT && topKind() <= UNTIL;
        }
    }

    /**
     * Holds the text and reads it character by character: the grammar needs no look ahead, so the
     * first character that cannot be taken is the error position.
     */
    private static final class Reader {
        /** What stands open on the stack beside the kinds of parts; HALF is an UNTIL before its U. */
        static final int BRACKET = 14;
        static final int HALF = 15;

        static final int WANTS_UNIT = 0;
        static final int WANTS_AGENT = 1;
        static final int WANTS_GOAL = 2;
        static final int HAS_UNIT = 3;

        final int agentCount;
        final int[] text = new int[MOST_CHARACTERS];
        final int[] open = new int[MOST_CHARACTERS];
        final int[] openCoalitions = new int[MOST_CHARACTERS];
        final int[] operands = new int[MOST_CHARACTERS];
        int length = 0;
        private int openCount;
        private int operandCount;
        private int mode;
        private int coalition;
        private int box;
        private Formula formula;

        Reader(int agentCount) {
            this.agentCount = agentCount;
        }

        boolean append(int c) {
            if (length >= MOST_CHARACTERS) {
                return false;
            }
            Rows.put(text, length, c);
            length++;
            return true;
        }

        /** Fills the formula from the text and answers -1, or else the error position. */
        int parse(Formula target) {
            if (target == null) {
                return 0;
            }
            formula = target;
            formula.count = 0;
            openCount = 0;
            operandCount = 0;
            mode = WANTS_UNIT;
            for (int i = 0; i < length; i++) {
                if (!take(Rows.at(text, i))) {
                    return i;
                }
                if (mode == HAS_UNIT) {
                    closePrefixes();
                }
            }
            if (mode != HAS_UNIT) {
                return length;
            }
            closeIf(Formula.AND);
            closeIf(Formula.OR);
            return openCount == 0 ? -1 : length;
        }

        private boolean take(int c) {
            switch (mode) {
                case WANTS_UNIT:
                    return takeUnit(c);
                case WANTS_AGENT:
                    return takeAgent(c);
                case WANTS_GOAL:
                    return takeGoal(c);
                default:
                    return takeAfterUnit(c);
            }
        }

        private boolean takeUnit(int c) {
            if (c >= 'a' && c <= 'z') {
                return addLeaf(Formula.LETTER, c - 'a');
            }
            switch (c) {
                case '0':
                    return addLeaf(Formula.ZERO, 0);
                case '1':
                    return addLeaf(Formula.ONE, 0);
                case '!':
                    return push(Formula.NOT, 0);
                case '(':
                    return push(BRACKET, 0);
                case '<':
                case '[':
                    coalition = 0;
                    box = c == '[' ? Formula.BOX : 0;
                    mode = WANTS_AGENT;
                    return true;
                default:
                    return false;
            }
        }

        private boolean takeAgent(int c) {
            if (c == (box == 0 ? '>' : ']')) {
                mode = WANTS_GOAL;
                return true;
            }
            int agent = c - '0';
            // a bit at or above the agent's own would be one that it does not ascend from
            if (agent < 0 || agent >= agentCount || coalition >> agent != 0) {
                return false;
            }
            coalition |= 1 << agent;
            return true;
        }

        private boolean takeGoal(int c) {
            switch (c) {
                case 'X':
                    return push(Formula.NEXT + box, coalition);
                case 'F':
                    return push(Formula.EVER + box, coalition);
                case 'G':
                    return push(Formula.ALWAYS + box, coalition);
                case '(':
                    return push(HALF + box, coalition);
                default:
                    return false;
            }
        }

        private boolean takeAfterUnit(int c) {
            closeIf(Formula.AND);
            if (c == '&') {
                return push(Formula.AND, 0);
            }
            closeIf(Formula.OR);
            switch (c) {
                case '|':
                    return push(Formula.OR, 0);
                case 'U':
                    return takeUntil();
                case ')':
                    return takeBracket();
                default:
                    return false;
            }
        }

        private boolean takeUntil() {
            int top = topOpen();
            if (top != HALF && top != HALF + Formula.BOX) {
                return false;
            }
            Rows.put(open, openCount - 1, top - HALF + Formula.UNTIL);
            mode = WANTS_UNIT;
            return true;
        }

        private boolean takeBracket() {
            int top = topOpen();
            if (top == BRACKET) {
                openCount--;
            } else if (top == Formula.UNTIL || top == Formula.UNTIL + Formula.BOX) {
                close();
            } else {
                return false;
            }
            mode = HAS_UNIT;
            return true;
        }

        private boolean addLeaf(int kind, int detail) {
            pushOperand(formula.add(kind, detail, 0, 0));
            mode = HAS_UNIT;
            return true;
        }

        /** What stands before a unit binds it at once, so no stack level outlives its unit. */
        private void closePrefixes() {
            for (int left = openCount; left > 0 && isPrefix(topOpen()); left--) {
                close();
            }
        }

        private static boolean isPrefix(int kind) {
            if (kind == Formula.NOT) {
                return true;
            }
            int goal = kind > Formula.UNTIL ? kind - Formula.BOX : kind;
            return goal >= Formula.NEXT && goal <= Formula.ALWAYS;
        }

        private void closeIf(int kind) {
            if (topOpen() == kind) {
                close();
            }
        }

        private void close() {
            int kind = topOpen();
            int detail = Rows.at(openCoalitions, openCount - 1);
            openCount--;
            int second = isPrefix(kind) ? 0 : popOperand();
            int first = popOperand();
            pushOperand(formula.add(kind, detail, first, second));
        }

        private int topOpen() {
            return openCount > 0 ? Rows.at(open, openCount - 1) : -1;
        }

        private boolean push(int kind, int detail) {
            Rows.put(open, openCount, kind);
            Rows.put(openCoalitions, openCount, detail);
            openCount++;
            mode = WANTS_UNIT;
            return true;
        }

        private void pushOperand(int part) {
            Rows.put(operands, operandCount, part);
            operandCount++;
        }

        private int popOperand() {
            operandCount--;
            return Rows.at(operands, operandCount);
        }
    }

    /** Where the parts of one formula hold in the structure as it is. */
    private static final class Meaning {
        final Structure structure;
        final Steps steps;
        final int[] sets = new int[MOST_CHARACTERS];
        final int[] ranks = new int[MOST_STATES];

        Meaning(Structure structure, Steps steps) {
            this.structure = structure;
            this.steps = steps;
        }

        void look(Formula f) {
            for (int part = 0; part < f.count; part++) {
                int kind = f.kind(part);
                int s = Rows.at(sets, f.first(part));
                int t = Rows.at(sets, f.second(part));
                int set;
                if (kind == Formula.LETTER) {
                    set = labelled(f.detail(part));
                } else if (kind < Formula.NEXT) {
                    set = plainSet(kind, s, t);
                } else if (kind <= Formula.UNTIL) {
                    set = strongSet(kind, f.detail(part), s, t, false);
                } else {
                    set = boxSet(kind - Formula.BOX, f.detail(part), s, t);
                }
                Rows.put(sets, part, set);
            }
        }

        int setOf(int part) {
            return Rows.at(sets, part);
        }

        int whole(Formula f) {
            look(f);
            return setOf(f.count - 1);
        }

        /** After a look: where the goal is reached by another coalition, or by the plan. */
        int goalSet(Formula f, int coalition, boolean byPlan) {
            int top = f.count - 1;
            return strongSet(f.topKind(), coalition, setOf(f.first(top)), setOf(f.second(top)), byPlan);
        }

        /** After a goalSet with EVER or UNTIL: the rank, or -1 where the goal is not reached. */
        int rankOf(int state) {
            return Rows.at(ranks, state);
        }

        int statesBelow(int rank) {
            int found = 0;
            for (int state = 0; state < structure.stateCount; state++) {
                int own = rankOf(state);
                if (own >= 0 && own < rank) {
                    found |= 1 << state;
                }
            }
            return found;
        }

        private int labelled(int letter) {
            int found = 0;
            for (int state = 0; state < structure.stateCount; state++) {
                found |= (structure.labelSet(state) >> letter & 1) << state;
            }
            return found;
        }

        private int plainSet(int kind, int s, int t) {
            switch (kind) {
                case Formula.ONE:
                    return structure.allStates();
                case Formula.NOT:
                    return structure.allStates() & ~s;
                case Formula.AND:
                    return s & t;
                case Formula.OR:
                    return s | t;
                default:
                    return 0;
            }
        }

        private int strongSet(int goal, int coalition, int s, int t, boolean byPlan) {
            switch (goal) {
                case Formula.NEXT:
                    return steps.forcing(coalition, s, byPlan);
                case Formula.EVER:
                    return reached(coalition, structure.allStates(), s, byPlan);
                case Formula.ALWAYS:
                    return kept(coalition, s, byPlan);
                case Formula.UNTIL:
                    return reached(coalition, s, t, byPlan);
                default:
                    return 0;
            }
        }

        private int boxSet(int goal, int coalition, int s, int t) {
            int all = structure.allStates();
            switch (goal) {
                case Formula.NEXT:
                    return all & ~steps.forcing(coalition, all & ~s, false);
                case Formula.EVER:
                    return all & ~kept(coalition, all & ~s, false);
                case Formula.ALWAYS:
                    return all & ~reached(coalition, all, all & ~s, false);
                case Formula.UNTIL:
                    return unavoidable(coalition, s, t);
                default:
                    return 0;
            }
        }

        /** The layers L0, L1, ... in which only states of the path are added; fills the ranks. */
        private int reached(int coalition, int path, int goal, boolean byPlan) {
            for (int state = 0; state < MOST_STATES; state++) {
                Rows.put(ranks, state, (goal >> state & 1) != 0 ? 0 : -1);
            }
            int layer = goal;
            for (int k = 1; k <= MOST_STATES; k++) {
                int added = path & ~layer & steps.forcing(coalition, layer, byPlan);
                if (added == 0) {
                    break;
                }
                for (int state = 0; state < MOST_STATES; state++) {
                    if ((added >> state & 1) != 0) {
                        Rows.put(ranks, state, k);
                    }
                }
                layer |= added;
            }
            return layer;
        }

        private int kept(int coalition, int set, boolean byPlan) {
            int rest = set;
            for (int k = 0; k <= MOST_STATES; k++) {
                int smaller = rest & steps.forcing(coalition, rest, byPlan);
                if (smaller == rest) {
                    break;
                }
                rest = smaller;
            }
            return rest;
        }

        private int unavoidable(int coalition, int path, int goal) {
            int all = structure.allStates();
            int set = goal;
            for (int k = 0; k <= MOST_STATES; k++) {
                int larger = goal | path & ~steps.forcing(coalition, all & ~set, false);
                if (larger == set) {
                    break;
                }
                set = larger;
            }
            return set;
        }
    }

    /** Strategies, the plan put to work, and other coalitions for the same goal. */
    private static final class Tactics {
        final Structure structure;
        final Steps steps;
        final Meaning meaning;
        private int held = 0;

        Tactics(Structure structure, Steps steps, Meaning meaning) {
            this.structure = structure;
            this.steps = steps;
            this.meaning = meaning;
        }

        void prepare(Formula f) {
            meaning.look(f);
            held = meaning.goalSet(f, f.topCoalition(), false);
        }

        /** After a prepare: the joint action that the strategy tells. */
        int jointAt(Formula f, int state) {
            if ((held >> state & 1) == 0) {
                return 0;
            }
            int target;
            switch (f.topKind()) {
                case Formula.NEXT:
                    target = meaning.setOf(f.first(f.count - 1));
                    break;
                case Formula.ALWAYS:
                    target = held;
                    break;
                default:
                    if (meaning.rankOf(state) <= 0) {
                        return 0;
                    }
                    target = meaning.statesBelow(meaning.rankOf(state));
                    break;
            }
            return Math.max(0, steps.leastForcing(f.topCoalition(), state, target));
        }

        /** After a prepare: makes the plan follow the strategy. */
        int follow(Formula f) {
            int changed = 0;
            for (int state = 0; state < structure.stateCount; state++) {
                int rest = jointAt(f, state);
                for (int agent = 0; agent < structure.agentCount; agent++) {
                    int action = rest % MOST_ACTIONS;
                    rest /= MOST_ACTIONS;
                    boolean takesPart = (f.topCoalition() >> agent & 1) != 0;
                    if (takesPart && structure.plannedAction(state, agent) != action) {
                        structure.setPlannedAction(state, agent, action);
                        changed++;
                    }
                }
            }
            return changed;
        }

        int run(int coalition, int state, int rounds, int seed) {
            int now = state;
            int dice = nextSeed(seed);
            for (int round = 0; round < rounds; round++) {
                now = steps.follow(coalition, now, dice);
                dice = nextSeed(dice);
            }
            return now;
        }

        int fewest(Formula f, int state) {
            meaning.look(f);
            for (int size = 0; size <= structure.agentCount; size++) {
                for (int coalition = 0; coalition < structure.coalitionLimit; coalition++) {
                    if (Integer.bitCount(coalition) == size
                            && (meaning.goalSet(f, coalition, false) >> state & 1) != 0) {
                        return coalition;
                    }
                }
            }
            return NONE;
        }

        private static int nextSeed(int seed) {
            return 1103515245 * seed + 12345 & 2147483647;
        }
    }

    /** The coarsest division of the states into classes that no formula can tell apart. */
    private static final class Likeness {
        final Structure structure;
        final Steps steps;
        final int[] classNumbers = new int[MOST_STATES];
        final int[] finer = new int[MOST_STATES];
        final int[] oneSpread = new int[MOST_MOVES];
        final int[] otherSpread = new int[MOST_MOVES];

        Likeness(Structure structure, Steps steps) {
            this.structure = structure;
            this.steps = steps;
        }

        int classNumber(int state) {
            return Rows.at(classNumbers, state);
        }

        /** Splits one class of all states until nothing splits, and counts the classes. */
        int divide() {
            for (int state = 0; state < MOST_STATES; state++) {
                Rows.put(classNumbers, state, 0);
            }
            int count = Math.min(1, structure.stateCount);
            for (int round = 0; round <= MOST_STATES; round++) {
                int finerCount = refine();
                Rows.copy(finer, classNumbers);
                if (finerCount == count) {
                    break;
                }
                count = finerCount;
            }
            return count;
        }

        private int refine() {
            int count = 0;
            for (int state = 0; state < structure.stateCount; state++) {
                int like = firstLike(state);
                if (like < state) {
                    Rows.put(finer, state, Rows.at(finer, like));
                } else {
                    Rows.put(finer, state, count);
                    count++;
                }
            }
            return count;
        }

        private int firstLike(int state) {
            for (int other = 0; other < state; other++) {
                if (classNumber(other) == classNumber(state)
                        && structure.labelSet(other) == structure.labelSet(state)
                        && areAlike(other, state)) {
                    return other;
                }
            }
            return state;
        }

        private boolean areAlike(int one, int other) {
            for (int coalition = 0; coalition < structure.coalitionLimit; coalition++) {
                steps.spread(coalition, one, classNumbers, oneSpread);
                steps.spread(coalition, other, classNumbers, otherSpread);
                if (!answers(oneSpread, otherSpread) || !answers(otherSpread, oneSpread)) {
                    return false;
                }
            }
            return true;
        }

        /** Whether each possible joint action of the first row has one of the second within it. */
        private boolean answers(int[] spread, int[] replies) {
            for (int joint = 0; joint < structure.moveLimit; joint++) {
                int outcome = Rows.at(spread, joint);
                if (outcome != 0 && !hasWithin(replies, outcome)) {
                    return false;
                }
            }
            return true;
        }

        private boolean hasWithin(int[] replies, int outcome) {
            for (int joint = 0; joint < structure.moveLimit; joint++) {
                if (Steps.isForced(Rows.at(replies, joint), outcome)) {
                    return true;
                }
            }
            return false;
        }
    }
}
