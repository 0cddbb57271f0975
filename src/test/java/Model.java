import java.util.ArrayDeque;
import java.util.ArrayList;
import java.util.Collections;
import java.util.Deque;
import java.util.HashMap;
import java.util.LinkedHashSet;
import java.util.List;
import java.util.Map;
import java.util.Set;
import java.util.TreeMap;
import java.util.TreeSet;

/**
 * The document once more, written as slowly and as near to its words as may be: moves are maps from
 * lists of actions, fixed points are sought among all sets, classes among all divisions, and error
 * positions with a general recogniser. The tests compare the class with it.
 */
final class Model {
    static final int BAD = -1;
    static final int FULL = -2;
    static final int FORM = -3;
    static final int NONE = -9;

    private static final class State {
        final Set<Integer> labels = new TreeSet<>();
        final int[] actions;
        final int[] plan;
        /** In ascending order of the numbers of the moves. */
        final TreeMap<Integer, Integer> moves = new TreeMap<>();

        State(int n, int self) {
            actions = new int[n];
            plan = new int[n];
            for (int i = 0; i < n; i++) {
                actions[i] = 1;
            }
            moves.put(0, self);
        }

        State(State other) {
            labels.addAll(other.labels);
            actions = other.actions.clone();
            plan = other.plan.clone();
            moves.putAll(other.moves);
        }
    }

    private static final class Node {
        final String kind;
        final Set<Integer> agents;
        final int letter;
        final Node s;
        final Node t;

        Node(String kind, Set<Integer> agents, int letter, Node s, Node t) {
            this.kind = kind;
            this.agents = agents;
            this.letter = letter;
            this.s = s;
            this.t = t;
        }
    }

    private static final class Kept {
        final List<Node> parts = new ArrayList<>();

        Node top() {
            return parts.get(parts.size() - 1);
        }

        boolean hasStrategy() {
            return top().kind.startsWith("<");
        }
    }

    private final int n;
    private List<State> states = new ArrayList<>();
    private final Deque<List<State>> history = new ArrayDeque<>();
    private final List<Kept> kept = new ArrayList<>();
    private final StringBuilder text = new StringBuilder();
    private final Map<String, List<Set<Integer>>> reachCache = new HashMap<>();

    Model(int agents) {
        n = agents < 1 ? 1 : agents > 4 ? 4 : agents;
    }

    // ---- helpers of the structure

    private static int power(int i) {
        return i == 0 ? 1 : 3 * power(i - 1);
    }

    private boolean isState(int state) {
        return state >= 0 && state < states.size();
    }

    private boolean isAgent(int agent) {
        return agent >= 0 && agent < n;
    }

    private static List<State> copy(List<State> from) {
        List<State> made = new ArrayList<>();
        for (State s : from) {
            made.add(new State(s));
        }
        return made;
    }

    private void edit() {
        history.addLast(copy(states));
        if (history.size() > 4) {
            history.removeFirst();
        }
        reachCache.clear();
    }

    private static int digit(int number, int i) {
        return number / power(i) % 3;
    }

    /** All joint actions of these agents that are possible, as numbers in ascending order. */
    private List<Integer> joints(Set<Integer> agents, int state) {
        TreeSet<Integer> numbers = new TreeSet<>();
        numbers.add(0);
        for (int agent : agents) {
            TreeSet<Integer> longer = new TreeSet<>();
            for (int number : numbers) {
                for (int a = 0; a < states.get(state).actions[agent]; a++) {
                    longer.add(number + a * power(agent));
                }
            }
            numbers = longer;
        }
        return new ArrayList<>(numbers);
    }

    private Set<Integer> coalition(int bits) {
        Set<Integer> agents = new TreeSet<>();
        for (int i = 0; i < n; i++) {
            if ((bits >> i & 1) == 1) {
                agents.add(i);
            }
        }
        return agents;
    }

    private Set<Integer> others(Set<Integer> agents) {
        Set<Integer> rest = coalition((1 << n) - 1);
        rest.removeAll(agents);
        return rest;
    }

    private Set<Integer> all() {
        return setOf((1 << states.size()) - 1);
    }

    private static Set<Integer> setOf(int bits) {
        Set<Integer> set = new TreeSet<>();
        for (int i = 0; i < 31; i++) {
            if ((bits >> i & 1) == 1) {
                set.add(i);
            }
        }
        return set;
    }

    private static int bits(Set<Integer> set) {
        int bits = 0;
        for (int i : set) {
            bits |= 1 << i;
        }
        return bits;
    }

    private Set<Integer> not(Set<Integer> set) {
        Set<Integer> rest = all();
        rest.removeAll(set);
        return rest;
    }

    private static Set<Integer> and(Set<Integer> a, Set<Integer> b) {
        Set<Integer> both = new TreeSet<>(a);
        both.retainAll(b);
        return both;
    }

    private static Set<Integer> or(Set<Integer> a, Set<Integer> b) {
        Set<Integer> either = new TreeSet<>(a);
        either.addAll(b);
        return either;
    }

    private Set<Integer> reached(Set<Integer> agents, int state, int joint) {
        Set<Integer> found = new TreeSet<>();
        for (int reply : joints(others(agents), state)) {
            found.add(states.get(state).moves.get(joint + reply));
        }
        return found;
    }

    private List<Set<Integer>> allReached(Set<Integer> agents, int state) {
        return reachCache.computeIfAbsent(agents + "/" + state, k -> {
            List<Set<Integer>> found = new ArrayList<>();
            for (int joint : joints(agents, state)) {
                found.add(reached(agents, state, joint));
            }
            return found;
        });
    }

    private int leastForcing(Set<Integer> agents, int state, Set<Integer> set) {
        List<Integer> numbers = joints(agents, state);
        List<Set<Integer>> found = allReached(agents, state);
        for (int i = 0; i < numbers.size(); i++) {
            if (set.containsAll(found.get(i))) {
                return numbers.get(i);
            }
        }
        return NONE;
    }

    private int told(Set<Integer> agents, int state) {
        int joint = 0;
        for (int agent : agents) {
            int action = states.get(state).plan[agent];
            joint += (action < states.get(state).actions[agent] ? action : 0) * power(agent);
        }
        return joint;
    }

    private Set<Integer> forcing(Set<Integer> agents, Set<Integer> set, boolean byPlan) {
        Set<Integer> found = new TreeSet<>();
        for (int s = 0; s < states.size(); s++) {
            boolean forces = byPlan
                    ? set.containsAll(reached(agents, s, told(agents, s)))
                    : leastForcing(agents, s, set) != NONE;
            if (forces) {
                found.add(s);
            }
        }
        return found;
    }

    // ---- structure

    int agents() {
        return n;
    }

    int addState() {
        if (states.size() == 12) {
            return FULL;
        }
        edit();
        states.add(new State(n, states.size()));
        return states.size() - 1;
    }

    int states() {
        return states.size();
    }

    int setActions(int state, int agent, int count) {
        if (!isState(state) || !isAgent(agent) || count < 1 || count > 3) {
            return BAD;
        }
        edit();
        State s = states.get(state);
        int previous = s.actions[agent];
        s.actions[agent] = count;
        s.moves.clear();
        for (int move : joints(coalition((1 << n) - 1), state)) {
            s.moves.put(move, state);
        }
        return previous;
    }

    int actions(int state, int agent) {
        return isState(state) && isAgent(agent) ? states.get(state).actions[agent] : BAD;
    }

    int label(int state, int letter, boolean on) {
        if (!isState(state) || letter < 97 || letter > 122) {
            return BAD;
        }
        edit();
        Set<Integer> labels = states.get(state).labels;
        boolean had = on ? !labels.add(letter) : labels.remove(letter);
        return had ? 1 : 0;
    }

    int labels(int state) {
        if (!isState(state)) {
            return BAD;
        }
        int bits = 0;
        for (int letter : states.get(state).labels) {
            bits |= 1 << (letter - 97);
        }
        return bits;
    }

    int setMove(int state, int move, int next) {
        if (!isState(state) || !isState(next) || !states.get(state).moves.containsKey(move)) {
            return BAD;
        }
        edit();
        return states.get(state).moves.put(move, next);
    }

    int setAll(int state, int agent, int action, int next) {
        if (!isState(state) || !isState(next) || !isAgent(agent)
                || action < 0 || action >= states.get(state).actions[agent]) {
            return BAD;
        }
        edit();
        int elsewhere = 0;
        for (Map.Entry<Integer, Integer> e : states.get(state).moves.entrySet()) {
            if (digit(e.getKey(), agent) == action) {
                elsewhere += e.getValue() == next ? 0 : 1;
                e.setValue(next);
            }
        }
        return elsewhere;
    }

    int next(int state, int move) {
        return isState(state) ? states.get(state).moves.getOrDefault(move, BAD) : BAD;
    }

    int moves(int state) {
        return isState(state) ? states.get(state).moves.size() : BAD;
    }

    // ---- one step

    private boolean isQuestion(int coalition, int state, int set) {
        return coalition >= 0 && coalition < 1 << n && isState(state)
                && set >= 0 && set < 1 << states.size();
    }

    int force(int coalition, int state, int set) {
        return isQuestion(coalition, state, set)
                ? leastForcing(coalition(coalition), state, setOf(set)) : BAD;
    }

    int reply(int coalition, int state, int action, int set) {
        if (!isQuestion(coalition, state, set)
                || !joints(coalition(coalition), state).contains(action)) {
            return BAD;
        }
        for (Map.Entry<Integer, Integer> e : states.get(state).moves.entrySet()) {
            boolean same = true;
            for (int agent : coalition(coalition)) {
                same &= digit(e.getKey(), agent) == digit(action, agent);
            }
            if (same && !setOf(set).contains(e.getValue())) {
                return e.getKey();
            }
        }
        return NONE;
    }

    int forced(int coalition, int state) {
        if (!isQuestion(coalition, state, 0)) {
            return BAD;
        }
        Set<Integer> reached = new LinkedHashSet<>();
        for (Set<Integer> one : allReached(coalition(coalition), state)) {
            reached.add(bits(one));
        }
        int count = 0;
        for (int set = 0; set < 1 << states.size(); set++) {
            for (int one : reached) {
                if ((one | set) == set) {
                    count++;
                    break;
                }
            }
        }
        return count;
    }

    // ---- formulas

    int type(int c) {
        if (c < 32 || c > 126) {
            return BAD;
        }
        if (text.length() == 60) {
            return FULL;
        }
        text.append((char) c);
        return text.length();
    }

    int clear() {
        int had = text.length();
        text.setLength(0);
        return had;
    }

    int read() {
        if (kept.size() == 8) {
            return FULL;
        }
        int error = errorPosition(text.toString());
        if (error >= 0) {
            return -100 - error;
        }
        Kept made = new Kept();
        new Parser(text.toString(), made.parts).formula();
        kept.add(made);
        text.setLength(0);
        return kept.size() - 1;
    }

    int forget() {
        int had = kept.size();
        kept.clear();
        return had;
    }

    int formulas() {
        return kept.size();
    }

    private Kept keptAt(int i) {
        return i >= 0 && i < kept.size() ? kept.get(i) : null;
    }

    int parts(int formula) {
        Kept f = keptAt(formula);
        return f == null ? BAD : f.parts.size();
    }

    int where(int formula, int part) {
        Kept f = keptAt(formula);
        return f == null || part < 0 || part >= f.parts.size() ? BAD : bits(meaning(f.parts.get(part)));
    }

    int holds(int formula, int state) {
        Kept f = keptAt(formula);
        if (f == null || !isState(state)) {
            return BAD;
        }
        return meaning(f.top()).contains(state) ? 1 : 0;
    }

    int counterexample(int formula, int other) {
        Kept f = keptAt(formula);
        Kept g = keptAt(other);
        if (f == null || g == null) {
            return BAD;
        }
        Set<Integer> rest = and(meaning(f.top()), not(meaning(g.top())));
        return rest.isEmpty() ? NONE : Collections.min(rest);
    }

    // ---- meaning

    private Set<Integer> meaning(Node f) {
        Set<Integer> s = f.s == null ? new TreeSet<>() : meaning(f.s);
        Set<Integer> t = f.t == null ? new TreeSet<>() : meaning(f.t);
        Set<Integer> a = f.agents;
        switch (f.kind) {
            case "0":
                return new TreeSet<>();
            case "1":
                return all();
            case "letter":
                Set<Integer> found = new TreeSet<>();
                for (int i = 0; i < states.size(); i++) {
                    if (states.get(i).labels.contains(f.letter)) {
                        found.add(i);
                    }
                }
                return found;
            case "!":
                return not(s);
            case "&":
                return and(s, t);
            case "|":
                return or(s, t);
            case "[X":
                return not(strong("<X", a, not(s), t, false));
            case "[F":
                return not(strong("<G", a, not(s), t, false));
            case "[G":
                return not(strong("<F", a, not(s), t, false));
            case "[U":
                return leastUnavoidable(a, s, t);
            default:
                return strong(f.kind, a, s, t, false);
        }
    }

    private Set<Integer> strong(String kind, Set<Integer> a, Set<Integer> s, Set<Integer> t, boolean byPlan) {
        switch (kind) {
            case "<X":
                return forcing(a, s, byPlan);
            case "<G":
                return greatestKept(a, s, byPlan);
            default:
                List<Set<Integer>> layers = layers(kind, a, s, t, byPlan);
                return layers.get(layers.size() - 1);
        }
    }

    /** L0 to L13: more than twelve states can need. */
    private List<Set<Integer>> layers(String kind, Set<Integer> a, Set<Integer> s, Set<Integer> t, boolean byPlan) {
        List<Set<Integer>> layers = new ArrayList<>();
        layers.add(kind.equals("<F") ? s : t);
        for (int k = 0; k < 13; k++) {
            Set<Integer> last = layers.get(k);
            Set<Integer> added = forcing(a, last, byPlan);
            layers.add(or(last, kind.equals("<F") ? added : and(added, s)));
        }
        return layers;
    }

    private static boolean isSubset(int small, int large) {
        return (small | large) == large;
    }

    /** The union of all sets of states of s in each of which the coalition can force the set. */
    private Set<Integer> greatestKept(Set<Integer> a, Set<Integer> s, boolean byPlan) {
        int in = bits(s);
        int union = 0;
        for (int z = 0; z < 1 << states.size(); z++) {
            if (isSubset(z, in) && !isSubset(z, union) && isSubset(z, bits(forcing(a, setOf(z), byPlan)))) {
                union |= z;
            }
        }
        return setOf(union);
    }

    /** The intersection of all sets that are as "[A](s U t)" asks; it must be one of them. */
    private Set<Integer> leastUnavoidable(Set<Integer> a, Set<Integer> s, Set<Integer> t) {
        int least = (1 << states.size()) - 1;
        boolean seen = false;
        for (int z = 0; z < 1 << states.size(); z++) {
            if (!isSubset(bits(t), z) || seen && isSubset(least, z)) {
                continue;
            }
            Set<Integer> asked = or(t, and(s, not(forcing(a, not(setOf(z)), false))));
            if (bits(asked) == z) {
                least &= z;
                seen = true;
            }
        }
        return setOf(least);
    }

    // ---- strategies

    private int rankOf(Node f, int state) {
        List<Set<Integer>> layers = layers(f.kind, f.agents, meaning(f.s), f.t == null ? null : meaning(f.t), false);
        for (int k = 0; k < layers.size(); k++) {
            if (layers.get(k).contains(state)) {
                return k;
            }
        }
        return NONE;
    }

    int rank(int formula, int state) {
        Kept f = keptAt(formula);
        if (f == null || !isState(state)) {
            return BAD;
        }
        String kind = f.top().kind;
        return kind.equals("<F") || kind.equals("<U") ? rankOf(f.top(), state) : FORM;
    }

    private int told(Node f, int state) {
        if (!meaning(f).contains(state)) {
            return 0;
        }
        switch (f.kind) {
            case "<X":
                return leastForcing(f.agents, state, meaning(f.s));
            case "<G":
                return leastForcing(f.agents, state, meaning(f));
            default:
                int rank = rankOf(f, state);
                Set<Integer> t = f.t == null ? null : meaning(f.t);
                return rank == 0 ? 0 : leastForcing(f.agents, state,
                        layers(f.kind, f.agents, meaning(f.s), t, false).get(rank - 1));
        }
    }

    int strategy(int formula, int state) {
        Kept f = keptAt(formula);
        if (f == null || !isState(state)) {
            return BAD;
        }
        return f.hasStrategy() ? told(f.top(), state) : FORM;
    }

    int plan(int state, int agent, int action) {
        if (!isState(state) || !isAgent(agent) || action < 0 || action > 2) {
            return BAD;
        }
        edit();
        int previous = states.get(state).plan[agent];
        states.get(state).plan[agent] = action;
        return previous;
    }

    int adopt(int formula) {
        Kept f = keptAt(formula);
        if (f == null) {
            return BAD;
        }
        if (!f.hasStrategy()) {
            return FORM;
        }
        edit();
        int changed = 0;
        for (int s = 0; s < states.size(); s++) {
            int joint = told(f.top(), s);
            for (int agent : f.top().agents) {
                int[] plan = states.get(s).plan;
                changed += plan[agent] == digit(joint, agent) ? 0 : 1;
                plan[agent] = digit(joint, agent);
            }
        }
        return changed;
    }

    int planned(int state, int agent) {
        return isState(state) && isAgent(agent) ? states.get(state).plan[agent] : BAD;
    }

    int enforced(int formula) {
        Kept f = keptAt(formula);
        if (f == null) {
            return BAD;
        }
        if (!f.hasStrategy()) {
            return FORM;
        }
        Node top = f.top();
        return bits(strong(top.kind, top.agents, meaning(top.s), top.t == null ? null : meaning(top.t), true));
    }

    private static int step(int seed) {
        return (int) ((1103515245L * seed + 12345L) & 2147483647L);
    }

    int play(int formula, int state, int rounds, int seed) {
        Kept f = keptAt(formula);
        if (f == null || !isState(state) || rounds < 0 || rounds > 200) {
            return BAD;
        }
        if (!f.hasStrategy()) {
            return FORM;
        }
        int now = state;
        int dice = step(seed);
        for (int i = 0; i < rounds; i++) {
            List<Integer> replies = joints(others(f.top().agents), now);
            now = states.get(now).moves.get(told(f.top().agents, now) + replies.get(dice % replies.size()));
            dice = step(dice);
        }
        return now;
    }

    int smallest(int formula, int state) {
        Kept f = keptAt(formula);
        if (f == null || !isState(state)) {
            return BAD;
        }
        if (!f.hasStrategy()) {
            return FORM;
        }
        int best = NONE;
        for (int c = 0; c < 1 << n; c++) {
            Node asked = new Node(f.top().kind, coalition(c), 0, f.top().s, f.top().t);
            if ((best == NONE || Integer.bitCount(c) < Integer.bitCount(best)) && meaning(asked).contains(state)) {
                best = c;
            }
        }
        return best;
    }

    // ---- likeness

    /** Whether states of a class are alike by the document's words, for this division. */
    private boolean isDivision(int[] classOf) {
        for (int s = 0; s < classOf.length; s++) {
            for (int t = 0; t < classOf.length; t++) {
                if (classOf[s] == classOf[t] && !fits(s, t, classOf)) {
                    return false;
                }
            }
        }
        return true;
    }

    private boolean fits(int s, int t, int[] classOf) {
        if (labels(s) != labels(t)) {
            return false;
        }
        for (int c = 0; c < 1 << n; c++) {
            for (Set<Integer> from : allReached(coalition(c), s)) {
                boolean answered = false;
                for (Set<Integer> to : allReached(coalition(c), t)) {
                    answered |= names(from, classOf).containsAll(names(to, classOf));
                }
                if (!answered) {
                    return false;
                }
            }
        }
        return true;
    }

    private static Set<Integer> names(Set<Integer> set, int[] classOf) {
        Set<Integer> names = new TreeSet<>();
        for (int s : set) {
            names.add(classOf[s]);
        }
        return names;
    }

    private int[] best;
    private int bestCount;

    /** Tries all divisions in which classes are numbered by their smallest states. */
    private void divide(int[] classOf, int state, int count) {
        if (count >= bestCount) {
            return;
        }
        if (state == classOf.length) {
            if (isDivision(classOf)) {
                best = classOf.clone();
                bestCount = count;
            }
            return;
        }
        for (int c = 0; c <= count; c++) {
            classOf[state] = c;
            divide(classOf, state + 1, Math.max(count, c + 1));
        }
    }

    /** With many states: the greatest relation in which like states answer like states. */
    private int[] relate() {
        int m = states.size();
        boolean[][] like = new boolean[m][m];
        for (int s = 0; s < m; s++) {
            for (int t = 0; t < m; t++) {
                like[s][t] = labels(s) == labels(t);
            }
        }
        boolean changed = true;
        while (changed) {
            changed = false;
            for (int s = 0; s < m; s++) {
                for (int t = 0; t < m; t++) {
                    if (like[s][t] && !(answers(s, t, like) && answers(t, s, like))) {
                        like[s][t] = false;
                        changed = true;
                    }
                }
            }
        }
        int[] classOf = new int[m];
        int count = 0;
        for (int s = 0; s < m; s++) {
            int first = 0;
            while (!like[first][s]) {
                first++;
            }
            classOf[s] = first == s ? count++ : classOf[first];
        }
        return classOf;
    }

    private boolean answers(int s, int t, boolean[][] like) {
        for (int c = 0; c < 1 << n; c++) {
            for (Set<Integer> from : allReached(coalition(c), s)) {
                boolean answered = false;
                for (Set<Integer> to : allReached(coalition(c), t)) {
                    boolean good = true;
                    for (int y : to) {
                        boolean some = false;
                        for (int x : from) {
                            some |= like[x][y];
                        }
                        good &= some;
                    }
                    answered |= good;
                }
                if (!answered) {
                    return false;
                }
            }
        }
        return true;
    }

    private int[] division() {
        int[] related = relate();
        if (states.size() > 5) {
            return related;
        }
        bestCount = states.size() + 1;
        divide(new int[states.size()], 0, 0);
        if (!java.util.Arrays.equals(best, related)) {
            throw new IllegalStateException("the model is at odds with itself");
        }
        return best;
    }

    int classes() {
        int count = 0;
        for (int c : division()) {
            count = Math.max(count, c + 1);
        }
        return count;
    }

    int classOf(int state) {
        return isState(state) ? division()[state] : BAD;
    }

    // ---- history

    int undo() {
        if (history.isEmpty()) {
            return NONE;
        }
        states = history.removeLast();
        reachCache.clear();
        return history.size();
    }

    long fingerprint() {
        List<Long> numbers = new ArrayList<>();
        numbers.add((long) states.size());
        for (int s = 0; s < states.size(); s++) {
            numbers.add((long) labels(s));
            for (int i = 0; i < n; i++) {
                numbers.add((long) states.get(s).actions[i]);
                numbers.add((long) states.get(s).plan[i]);
            }
            for (int next : states.get(s).moves.values()) {
                numbers.add((long) next);
            }
        }
        numbers.add((long) kept.size());
        long sum = 41;
        for (long number : numbers) {
            sum = 31 * sum + number;
        }
        return sum;
    }

    // ---- the grammar as rules, for a general recogniser (Earley's)

    private static final Map<Integer, List<String>> RULES = new HashMap<>();

    /** In the rules "f" is a formula, "c" a conjunction, "u" a unit, "g" a goal; a letter is "a". */
    private static List<String> rules(int agents) {
        return RULES.computeIfAbsent(agents, k -> {
            List<String> rules = new ArrayList<>(List.of("f=c", "f=f|c", "c=u", "c=c&u", "u=!u", "u=0", "u=1",
                    "u=a", "u=(f)", "g=Xu", "g=Fu", "g=Gu", "g=(fUf)"));
            for (int set = 0; set < 1 << k; set++) {
                StringBuilder digits = new StringBuilder();
                for (int i = 0; i < k; i++) {
                    if ((set >> i & 1) == 1) {
                        digits.append(i);
                    }
                }
                rules.add("u=<" + digits + ">g");
                rules.add("u=[" + digits + "]g");
            }
            return rules;
        });
    }

    private static final String INNER = "fcug";

    private record Item(String rule, int dot, int start) {
        boolean ended() {
            return dot == rule.length();
        }

        char wanted() {
            return ended() ? ' ' : rule.charAt(dot);
        }

        Item moved() {
            return new Item(rule, dot + 1, start);
        }
    }

    private int errorPosition(String s) {
        List<Set<Item>> columns = new ArrayList<>();
        Set<Item> first = new LinkedHashSet<>();
        first.add(new Item("S=f", 2, 0));
        columns.add(first);
        for (int i = 0; ; i++) {
            List<Item> queue = new ArrayList<>(columns.get(i));
            for (int q = 0; q < queue.size(); q++) {
                for (Item made : grown(queue.get(q), columns, i)) {
                    if (columns.get(i).add(made)) {
                        queue.add(made);
                    }
                }
            }
            if (i == s.length()) {
                return columns.get(i).contains(new Item("S=f", 3, 0)) ? -1 : i;
            }
            Set<Item> next = new LinkedHashSet<>();
            for (Item item : columns.get(i)) {
                char w = item.wanted();
                char c = s.charAt(i);
                if (INNER.indexOf(w) < 0 && (w == 'a' ? c >= 'a' && c <= 'z' : w == c && w != ' ')) {
                    next.add(item.moved());
                }
            }
            if (next.isEmpty()) {
                return i;
            }
            columns.add(next);
        }
    }

    private List<Item> grown(Item item, List<Set<Item>> columns, int at) {
        List<Item> made = new ArrayList<>();
        if (item.ended()) {
            for (Item waiting : columns.get(item.start())) {
                if (waiting.wanted() == item.rule().charAt(0)) {
                    made.add(waiting.moved());
                }
            }
        } else if (INNER.indexOf(item.wanted()) >= 0) {
            for (String rule : rules(n)) {
                if (rule.charAt(0) == item.wanted()) {
                    made.add(new Item(rule, 2, at));
                }
            }
        }
        return made;
    }

    /** Makes the parts of a text that is known to be a formula. */
    private static final class Parser {
        private final String s;
        private final List<Node> parts;
        private int at = 0;

        Parser(String s, List<Node> parts) {
            this.s = s;
            this.parts = parts;
        }

        private boolean sees(char c) {
            return at < s.length() && s.charAt(at) == c;
        }

        private Node made(String kind, Set<Integer> agents, int letter, Node a, Node b) {
            Node node = new Node(kind, agents, letter, a, b);
            parts.add(node);
            return node;
        }

        Node formula() {
            Node left = conjunction();
            while (sees('|')) {
                at++;
                left = made("|", null, 0, left, conjunction());
            }
            return left;
        }

        private Node conjunction() {
            Node left = unit();
            while (sees('&')) {
                at++;
                left = made("&", null, 0, left, unit());
            }
            return left;
        }

        private Node unit() {
            char c = s.charAt(at++);
            switch (c) {
                case '!':
                    return made("!", null, 0, unit(), null);
                case '0':
                case '1':
                    return made(String.valueOf(c), null, 0, null, null);
                case '(':
                    Node inner = formula();
                    at++;
                    return inner;
                case '<':
                case '[':
                    return goal(c);
                default:
                    return made("letter", null, c, null, null);
            }
        }

        private Node goal(char opener) {
            Set<Integer> agents = new TreeSet<>();
            while (Character.isDigit(s.charAt(at))) {
                agents.add(s.charAt(at++) - '0');
            }
            at++;
            char c = s.charAt(at++);
            if (c != '(') {
                return made("" + opener + c, agents, 0, unit(), null);
            }
            Node left = formula();
            at++;
            Node right = formula();
            at++;
            return made(opener + "U", agents, 0, left, right);
        }
    }
}
