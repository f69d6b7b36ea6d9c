/** PASS (==== 2.): what U keeps when T ends it, what it takes, and when each of the two answers. */
public final class PassTest {
    private static final int ERROR = 1 << 10;
    private static final int ALL = 1 << 4;
    private static final int BUSY = 1 << 3;
    private static final int T = 1;
    private static final int U = 3;
    private static final int BEFORE = U << 11 | 1 << 5 | 1;
    private static final int ORDER = U << 11 | 4 << 5 | 2;
    private static final int COMMAND = T << 11 | ERROR | 2 << 5 | 2;

    // How T ends it, and by which OUTCOME.
    private static final String[] ENDS = {"no power", "deaf", "command turned", "shut", "status turned", "first word turned",
        "last word turned", "status of one that is busy turned", "status of one that refuses turned", "refuses", "busy"};
    private static final int[] OUTCOMES = {1, 1, 1, 1, 2, 2, 2, 2, 2, 3, 4};

    // What there is to U; the first of them are such that it heard nothing.
    private static final String[] STATES = {"no power", "deaf", "command turned", "held", "as ever", "deaf on the other bus",
        "shut", "shut on the other bus", "busy", "refuses"};
    private static final int DEAF_STATES = 4;

    public static void main(String[] args) {
        endedByT();
        goneThroughT();
        turnedOfAll();
        leastAndMost();
        whoIsTold();
        Kit.finish();
    }

    /** An object in which U has ERROR told of an earlier COMMAND, and a PASS on BUS 0 is to come. */
    private static CommandBus made(int state, boolean all) {
        CommandBus b = new CommandBus();
        b.set(1, 0);
        Kit.table(b, "pass 1 2 3 4 2 every 1 at 0 on 0;");
        b.word(T, 2, 0, 21);
        b.word(T, 2, 1, 22);
        if (state == 6 || state == 7) {
            b.once(state == 6 ? 1 : 0, 3, U, 0, 4);
        }
        int bus = state == 7 ? 0 : 1;
        if (all) {
            b.once(bus, 2, 0, 1, 1);
        } else {
            b.terminal(U, 8, 0);
            b.once(bus, 0, U, 1, 1);
            b.terminal(U, 8, 126);
        }
        switch (state) {
            case 0: b.terminal(U, 0, 0); break;
            case 1: b.terminal(U, 6, 1); break;
            case 2: b.noise(0, 1); break;
            case 3: b.terminal(7, 7, 1); break;
            case 5: b.terminal(U, 6, 2); break;
            case 8: b.terminal(U, 1, 1); break;
            case 9: b.terminal(U, 8, 126 - (1 << 4)); break;
            default: break;
        }
        return b;
    }

    private static void end(CommandBus b, int end) {
        switch (end) {
            case 0: b.terminal(T, 0, 0); break;
            case 1: b.terminal(T, 6, 1); break;
            case 2: b.noise(0, 2); break;
            case 3: b.once(1, 3, T, 0, 4); break;
            case 4: b.noise(0, 3); break;
            case 5: b.noise(0, 4); break;
            case 6: b.noise(0, 5); break;
            case 7: b.terminal(T, 1, 1); b.noise(0, 3); break;
            case 8: b.terminal(T, 8, 0); b.noise(0, 3); break;
            case 9: b.terminal(T, 8, 126 - (1 << 2)); break;
            default: b.terminal(T, 1, 1); break;
        }
    }

    /**
     * "(U, if it HEARS and its own COMMAND was right: ERROR, ALL none, LAST COMMAND, as above.)",
     * "(OUTCOMES 1 to 4 of T end it; but such a U keeps ERROR, if any WORD of T's answer was turned, STATUS, too)"
     */
    private static void endedByT() {
        for (int state = 0; state < STATES.length; state++) {
            for (int end = 0; end < ENDS.length; end++) {
                if (state != 7 || end != 3) {
                    ended(state, end, false);
                    ended(state, end, true);
                }
            }
        }
    }

    private static void ended(int state, int end, boolean all) {
        String name = "U " + STATES[state] + ", T " + ENDS[end] + ": ";
        CommandBus b = made(state, all);
        end(b, end);
        int errors = b.of(U, 12);
        int status = b.of(U, 13);
        int command = b.of(U, 14);
        Kit.due(name + "ahead of it", U << 11 | (all ? ALL : ERROR), status);
        int turnedAnswer = OUTCOMES[end] == 2 && state != 3 ? 1 : 0;
        b.frame(1);
        Kit.due(name + "outcome", state == 3 ? 1 : OUTCOMES[end], b.log(0, 4));
        if (state < DEAF_STATES) {
            Kit.due(name + "command stays", command, b.of(U, 14));
            Kit.due(name + "status stays", status, b.of(U, 13));
            Kit.due(name + "errors stay", errors, b.of(U, 12));
        } else {
            Kit.due(name + "command", ORDER, b.of(U, 14));
            Kit.due(name + "status", U << 11 | turnedAnswer * ERROR | (state == 8 ? BUSY : 0), b.of(U, 13));
            Kit.due(name + "errors", errors + turnedAnswer, b.of(U, 12));
        }
        Kit.due(name + "nothing taken", 0, b.at(U, 4, 0, 1));
        Kit.due(name + "nobody but T answers", true, b.heard(0, 1) != U);
    }

    /** "Then U, 8 later: it does not HEAR, its COMMAND was turned, SHUT: OUTCOME 1; r not LEGAL, BUSY as for SEND; else .." */
    private static void goneThroughT() {
        int[] outcomes = {1, 1, 1, 1, 0, 0, 1, 0, 4, 3};
        for (int state = 0; state < STATES.length; state++) {
            CommandBus b = made(state, false);
            int errors = b.of(U, 12);
            int took = b.bus(0, 4);
            int tally = b.tally(T, outcomes[state]);
            b.frame(1);
            String name = "U " + STATES[state] + ": ";
            Kit.due(name + "outcome", outcomes[state], b.log(0, 4));
            Kit.due(name + "tally of T", tally + 1, b.tally(T, outcomes[state]));
            boolean takes = state >= 4 && state <= 7;
            Kit.due(name + "first word", takes ? 21 : 0, b.at(U, 4, 0, 1));
            Kit.due(name + "last word", takes ? 22 : 0, b.at(U, 4, 1, 1));
            Kit.due(name + "command", state < DEAF_STATES ? BEFORE : ORDER, b.of(U, 14));
            int bits = state < DEAF_STATES || state == 9 ? ERROR : state == 8 ? BUSY : 0;
            Kit.due(name + "status", U << 11 | bits, b.of(U, 13));
            Kit.due(name + "errors", errors + (state == 9 ? 1 : 0), b.of(U, 12));
            Kit.due(name + "command of T", state == 3 ? 0 : COMMAND, b.of(T, 14));
            int time = state == 3 ? 58 : outcomes[state] == 1 ? 40 + 8 + 60 + 14 + 4 : 140;
            Kit.due(name + "time", time, b.bus(0, 4) - took);
        }
    }

    /** Any set of the six WORDS turned: each COMMAND counts for its own TERMINAL alone. */
    private static void turnedOfAll() {
        for (int set = 0; set < 64; set++) {
            CommandBus b = made(4, false);
            for (int k = 0; k < 6; k++) {
                if ((set >> k & 1) != 0) {
                    b.noise(0, k + 1);
                }
            }
            b.frame(1);
            boolean noU = (set & 1) != 0;
            boolean noT = (set & 2) != 0;
            boolean bad = (set & 4 + 8 + 16) != 0;
            int due = noT ? 1 : bad ? 2 : noU ? 1 : (set & 32) != 0 ? 2 : 0;
            Kit.due("outcome of " + set, due, b.log(0, 4));
            Kit.due("U of " + set, noU ? BEFORE : ORDER, b.of(U, 14));
            Kit.due("T of " + set, noT ? 0 : COMMAND, b.of(T, 14));
            Kit.due("errors of U of " + set, 1 + (!noU && !noT && bad ? 1 : 0), b.of(U, 12));
            Kit.due("taken of " + set, noU || noT || bad ? 0 : 22, b.at(U, 4, 1, 1));
            Kit.due("errors of T of " + set, 0, b.of(T, 12));
        }
    }

    /** T, U 0 .. 7, unlike; S, R 1 .. 6; N 1 .. 8. */
    private static void leastAndMost() {
        for (int t = 0; t < 8; t++) {
            for (int u = 0; u < 8; u++) {
                int s = 1 + (t + u) % 6;
                int r = 1 + (t * 3 + u + 1) % 6;
                int n = t % 2 == 0 ? 8 : 1 + u;
                CommandBus b = new CommandBus();
                Kit.due("told", t == u ? -1 : 1,
                    Kit.table(b, "pass " + t + " " + s + " " + u + " " + r + " " + n + " every 1 at 0 on 1;"));
                if (t != u) {
                    for (int i = 0; i < 8; i++) {
                        b.word(t, s, i, 60 + i);
                    }
                    Kit.due("passed", 1, b.frame(1));
                    for (int i = 0; i < 8; i++) {
                        Kit.due("word " + i, i < n ? 60 + i : 0, b.at(u, r, i, 1));
                    }
                    Kit.due("order", u << 11 | r << 5 | n, b.heard(n + 3, 2));
                    Kit.due("command", t << 11 | ERROR | s << 5 | n, b.heard(n + 2, 2));
                    Kit.due("tallies", 2, b.tally(t, 0) + b.tally(u, 0));
                }
            }
        }
    }

    /** What came to U is not what the controllers got: GOT is of GET. */
    private static void whoIsTold() {
        CommandBus b = made(4, false);
        b.frame(1);
        for (int i = 0; i < 8; i++) {
            Kit.due("not got", 0, b.at(T, 2, i, 2) + b.at(U, 4, i, 2));
        }
        int[] trail = {100, 13 - 10, 11 - 10, 8};
        for (int i = 0; i < trail.length; i++) {
            Kit.due("trail " + i, trail[i], b.trail(i));
        }
    }
}
