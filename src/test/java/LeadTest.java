/** Who controls: hand with and without TAKES, OUTCOME 7 of each CONTROLLER, and ALL, which is to nobody. */
public final class LeadTest {
    public static void main(String[] args) {
        takesAlone();
        sevenOfEach();
        spreadOfEach();
        bitsOfFirst();
        heirOfSeveral();
        heirOnOneBus();
        Kit.finish();
    }

    /** An object that is controlled by one of the nine, with an empty past but for that. */
    private static CommandBus ledBy(int t) {
        CommandBus b = new CommandBus();
        if (t < 8) {
            b.terminal(t, 5, 1);
            Kit.table(b, "hand " + t + " every 1 at 0 on 0;");
            b.frame(1);
            b.terminal(t, 5, 0);
        }
        Kit.due("controls", t, b.look(3));
        return b;
    }

    /** "OUTCOME 0 without TAKES in STATUS: 5 (not tried again)": no other bit of STATUS is TAKES. */
    private static void takesAlone() {
        for (int t = 0; t < 8; t++) {
            for (int set = 0; set < 32; set++) {
                CommandBus b = new CommandBus();
                b.set(1, 3);
                // No time is left to ask one that is wanted, so the hand is all that went to it.
                b.set(0, 100);
                Kit.table(b, "hand " + t + " every 8 at 0 on 1;");
                for (int what = 1; what <= 5; what++) {
                    b.terminal(t, what, set >> what - 1 & 1);
                }
                boolean busy = (set & 1) != 0;
                boolean takes = (set & 16) != 0;
                b.frame(1);
                int due = busy ? 4 : takes ? 0 : 5;
                String name = "hand to " + t + " of " + set;
                Kit.due(name, due, b.log(0, 4));
                Kit.due("one try of " + name, 1, b.log(0, 2));
                Kit.due("controls behind " + name, due == 0 ? t : 8, b.look(3));
                Kit.due("moves of " + name, due == 0 ? 1 : 0, b.look(14));
                Kit.due("tally of " + name, 1, b.tally(t, busy ? 4 : 0));
                Kit.due("takes is told of " + name, takes ? 2 : 0, b.of(t, 13) & 2);
                Kit.due("count of " + name, 1, b.count(0, due));
            }
        }
    }

    /** "is what it is to, from (any) the CONTROLLER: OUTCOME 7"; ALL is to no one of them. */
    private static void sevenOfEach() {
        for (int t = 0; t <= 8; t++) {
            for (int u = 0; u < 8; u++) {
                int v = (u + 1) % 8;
                CommandBus b = ledBy(t);
                b.terminal(0, 5, 1);
                Kit.table(b, "all 1 1 every 1 at 0 on 0;send " + u + " 1 1 every 1 at 0 on 0;get " + u + " 1 1 every 1 at 0 on 0;pass "
                    + u + " 1 " + v + " 1 1 every 1 at 0 on 0;pass " + v + " 1 " + u + " 1 1 every 1 at 0 on 0;mode " + u
                    + " 1 every 1 at 0 on 0;hand " + u + " every 1 at 0 on 0;");
                b.frame(1);
                int[] of = {-1, u, u, u, u, u, u};
                for (int i = 0; i < of.length; i++) {
                    boolean own = of[i] == t || (i == 3 || i == 4) && v == t;
                    int good = i == 6 && u != 0 ? 5 : 0;
                    Kit.due("line " + i + " to " + u + " by " + t, own ? 7 : good, b.line(i, 7));
                    Kit.due("tries", own ? 0 : 1, b.log(of.length - 1 - i, 2));
                    Kit.due("bus", own ? -1 : 0, b.log(of.length - 1 - i, 3));
                }
            }
            CommandBus b = ledBy(t);
            Kit.table(b, "hand 8 every 1 at 0 on 0;");
            b.frame(1);
            Kit.due("hand 8 by " + t, t == 8 ? 7 : 0, b.line(0, 7));
            Kit.due("first", 8, b.look(3));
        }
    }

    /** "LINES to it, from it take nothing"; ALL takes its TIME, whoever controls. */
    private static void spreadOfEach() {
        for (int t = 0; t <= 8; t++) {
            for (int u = 0; u < 8; u++) {
                int v = (u + 3) % 8;
                CommandBus b = ledBy(t);
                b.set(1, 0);
                Kit.table(b, "all 1 1 every 1 at 0 on 0;pass " + u + " 1 " + v + " 1 1 every 1 at 0 on 0;");
                boolean own = u == t || v == t;
                Kit.due("least", own ? 44 : 44 + 58, b.spread(0, 1));
                Kit.due("greatest", own ? 44 : 44 + 120, b.spread(0, 2));
                Kit.due("how many", own ? 1 : 2, b.spread(0, 0));
                Kit.due("load all the same", 164, b.load(0, 0));
            }
        }
    }

    /** "(8: FIRST always; it answers with its number 8)", "STATUS with 8 and TAKES" */
    private static void bitsOfFirst() {
        for (int t = 0; t < 8; t++) {
            for (int bus = 0; bus < 2; bus++) {
                CommandBus b = ledBy(t);
                Kit.table(b, "hand 8 every 1 at 0 on " + bus + ";");
                b.terminal(8, 0, 0);
                b.frame(1);
                Kit.due("without power", 1, b.log(0, 4));
                Kit.due("still", t, b.look(3));
                b.terminal(8, 0, 1);
                b.noise(bus, 2);
                b.set(1, 0);
                b.frame(1);
                Kit.due("turned", 2, b.log(0, 4));
                Kit.due("still", t, b.look(3));
                b.noise(bus, 1);
                b.frame(1);
                Kit.due("command turned", 1, b.log(0, 4));
                Kit.due("still", t, b.look(3));
                b.frame(1);
                Kit.due("status", 8 << 11 | 2, b.heard(0, 2));
                Kit.due("who", 8, b.heard(0, 1));
                Kit.due("command", 8 << 11 | 1 << 10, b.heard(1, 2));
                Kit.due("by whom", t, b.heard(1, 1));
                Kit.due("controls", 8, b.look(3));
                Kit.due("took", 52, b.look(13));
                // Without POWER it was tried again once.
                int[] tally = {1, 3, 1, 0, 0};
                for (int o = 0; o < 5; o++) {
                    Kit.due("tally " + o, tally[o], b.tally(8, o));
                }
            }
        }
    }

    /** "(of several the latest)": of those with OUTCOME 0 and TAKES alone. */
    private static void heirOfSeveral() {
        for (int set = 0; set < 16; set++) {
            CommandBus b = new CommandBus();
            StringBuilder text = new StringBuilder();
            int due = 8;
            int[] order = {5, 2, 7, 0};
            for (int k = 0; k < 4; k++) {
                text.append("hand ").append(order[k]).append(" every 8 at 0 on 0;");
                b.terminal(order[k], 5, set >> k & 1);
                due = (set >> k & 1) != 0 ? order[k] : due;
            }
            Kit.table(b, text.append("send 1 1 1 every 8 at 0 on 0;").toString());
            Kit.due("good", Integer.bitCount(set) + 1, b.frame(1));
            Kit.due("the latest of " + set, due, b.look(3));
            Kit.due("behind this frame", 8, b.heard(2, 1));
            Kit.due("one move", set == 0 ? 0 : 1, b.look(14));
        }
    }

    /** TAKES, "if it ACCEPTS": one that is DEAF or SHUT on the other BUS takes control by hand all the same. */
    private static void heirOnOneBus() {
        for (int bus = 0; bus < 2; bus++) {
            for (int t = 0; t < 8; t++) {
                CommandBus b = new CommandBus();
                b.terminal(t, 5, 1);
                b.terminal(t, 6, 2 >> bus);
                b.once(bus, 3, t, 0, 4);
                b.terminal(t, 8, 0);
                Kit.table(b, "hand " + t + " every 1 at 0 on " + bus + ";");
                Kit.due("hand to " + t, 1, b.frame(1));
                Kit.due("one try", 1, b.log(0, 2));
                Kit.due("controls", t, b.look(3));
                Kit.due("shut there still", 2 >> bus, b.of(t, 10));
            }
        }
    }
}
