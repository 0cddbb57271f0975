/** Objects to ask, for the tests by hand. */
final class Boards {
    private Boards() {
    }

    static CoalitionChecker with(int agents, int states) {
        CoalitionChecker x = new CoalitionChecker(agents);
        for (int i = 0; i < states; i++) {
            x.addState();
        }
        return x;
    }

    static void write(CoalitionChecker x, String text) {
        for (int i = 0; i < text.length(); i++) {
            x.type(text.charAt(i));
        }
    }

    static int read(CoalitionChecker x, String text) {
        x.clear();
        write(x, text);
        return x.read();
    }

    static void readAll(CoalitionChecker x, String... texts) {
        for (String text : texts) {
            read(x, text);
        }
    }

    static void allActions(CoalitionChecker x, int state, int n) {
        for (int agent = 0; agent < x.agents(); agent++) {
            x.setActions(state, agent, n);
        }
    }

    /** Each state leads to the next one by the only move; the last one, which has the label g, stays. */
    static CoalitionChecker chain(int agents, int states) {
        CoalitionChecker x = with(agents, states);
        for (int s = 0; s + 1 < states; s++) {
            x.setMove(s, 0, s + 1);
        }
        x.label(states - 1, 'g', true);
        return x;
    }

    /** In state 0 all agents have all actions, and the last move alone leads to state 1, which has the label g. */
    static CoalitionChecker lastMove(int agents) {
        CoalitionChecker x = with(agents, 2);
        x.label(1, 'g', true);
        allActions(x, 0, 3);
        x.setMove(0, power(x.agents()) - 1, 1);
        return x;
    }

    static int power(int exponent) {
        int power = 1;
        for (int i = 0; i < exponent; i++) {
            power *= 3;
        }
        return power;
    }

    static int digit(int number, int i) {
        return number / power(i) % 3;
    }
}
