import java.util.function.Consumer;

/** Who is wanted, by which answers, and what comes of it: VECTORS (==== 4., promise 20). */
public final class WantedTest {
    public static void main(String[] args) {
        eachOne();
        byEachKind();
        ofEachSub();
        byEachCode();
        byEachOutcome();
        bothOfPass();
        notByOnce();
        notByAll();
        forgotten();
        vectors();
        vectorBounds();
        aheadOfControl();
        Kit.finish();
    }

    /** One frame of a line of terminal 1, which has SERVICE: how often it was asked by MODE 16 behind it. */
    private static int asked(String line, Consumer<CommandBus> told) {
        CommandBus b = new CommandBus();
        b.set(1, 0);
        b.terminal(1, 2, 1);
        b.terminal(1, 9, 700);
        Kit.table(b, line + " every 1 at 0 on 1;");
        told.accept(b);
        b.frame(1);
        int tries = b.bus(0, 3);
        Kit.due("came by it", tries == 1 ? 700 : 0, b.of(1, 16));
        return tries;
    }

    /** Each TERMINAL can be wanted, and all at once. */
    private static void eachOne() {
        for (int t = 0; t < 8; t++) {
            CommandBus b = new CommandBus();
            b.terminal(t, 2, 1);
            Kit.table(b, "mode " + t + " 1 every 1 at 0 on 1;");
            b.frame(1);
            Kit.due("vectors of " + t, 1, b.of(t, 17));
        }
        CommandBus b = new CommandBus();
        StringBuilder text = new StringBuilder();
        for (int t = 7; t >= 0; t--) {
            b.terminal(t, 2, 1);
            text.append("mode ").append(t).append(" 1 every 1 at 0 on 1;");
        }
        Kit.table(b, text.toString());
        b.frame(1);
        Kit.due("time", 8 * 52 + 8 * 72, b.look(13));
        for (int t = 0; t < 8; t++) {
            Kit.due("by number", t, b.heard(3 * (7 - t), 1));
        }
    }

    private static void byEachKind() {
        Consumer<CommandBus> nothing = b -> { };
        Kit.due("send", 1, asked("send 1 1 1", nothing));
        Kit.due("get", 1, asked("get 1 1 1", nothing));
        Kit.due("pass from it", 1, asked("pass 1 1 2 1 1", nothing));
        Kit.due("pass to it", 1, asked("pass 2 1 1 1 1", nothing));
        Kit.due("hand", 1, asked("hand 1", nothing));
        Kit.due("of another one", 0, asked("send 2 1 1", nothing));
        Kit.due("without service", 0, asked("send 1 1 1", b -> b.terminal(1, 2, 0)));
    }

    /** It is the TERMINAL that answered who is wanted, whatever SUB and n. */
    private static void ofEachSub() {
        for (int t = 0; t < 8; t++) {
            for (int sub = 1; sub <= 6; sub++) {
                for (int n = 1; n <= 8; n += 7) {
                    int u = (t + 5) % 8;
                    int r = sub % 6 + 1;
                    onlyOne(t, "send " + t + " " + sub + " " + n);
                    onlyOne(t, "get " + t + " " + sub + " " + n);
                    onlyOne(t, "pass " + t + " " + sub + " " + u + " " + r + " " + n);
                    onlyOne(t, "pass " + u + " " + r + " " + t + " " + sub + " " + n);
                }
            }
            onlyOne(t, "hand " + t);
            onlyOne(t, "mode " + t + " 19");
        }
    }

    private static void onlyOne(int t, String line) {
        CommandBus b = new CommandBus();
        b.terminal(t, 2, 1);
        Kit.table(b, line + " every 1 at 0 on 1;");
        b.frame(1);
        Kit.due("one is asked by " + line, 1, b.bus(0, 3));
        Kit.due("it is " + t, 1, b.of(t, 17));
        Kit.due("command", t << 11 | 1 << 10 | 16, b.heard(2, 2));
    }

    /** "MODE but 2, 16, 18" */
    private static void byEachCode() {
        for (int c = 1; c < 32; c++) {
            CommandBus b = new CommandBus();
            b.terminal(1, 2, 1);
            Kit.table(b, "mode 1 " + c + " every 8 at 0 on 1;");
            // So that LAST STATUS has SERVICE in it.
            b.once(1, 3, 1, 0, 1);
            b.frame(1);
            Kit.due("code " + c, c == 2 || c == 16 || c == 18 ? 0 : 1, b.bus(0, 3));
            // Code 4 shuts it on bus 0, so it is asked there in vain.
            Kit.due("vectors of " + c, c == 2 || c == 4 || c == 18 ? 0 : 1, b.of(1, 17));
        }
    }

    /** "that came in an answer of which no WORD was turned": OUTCOME 0, 3, 4, 5. */
    private static void byEachOutcome() {
        Kit.due("3", 1, asked("get 1 1 4", b -> b.terminal(1, 8, 0)));
        Kit.due("4", 1, asked("get 1 1 4", b -> b.terminal(1, 1, 1)));
        Kit.due("3 of send", 1, asked("send 1 1 4", b -> b.terminal(1, 8, 0)));
        Kit.due("4 of send", 1, asked("send 1 1 4", b -> b.terminal(1, 1, 1)));
        Kit.due("5", 1, asked("hand 1", b -> { }));
        Kit.due("no power", 0, asked("get 1 1 4", b -> b.terminal(1, 0, 0)));
        Kit.due("turned command", 0, asked("get 1 1 4", b -> b.noise(1, 1)));
        for (int k = 2; k <= 6; k++) {
            int n = k;
            Kit.due("turned word " + k, 0, asked("get 1 1 4", b -> b.noise(1, n)));
        }
        Kit.due("the next word", 1, asked("get 1 1 4", b -> b.noise(1, 7)));
        Kit.due("deaf there", 0, asked("get 1 1 4", b -> b.terminal(1, 6, 2)));
    }

    /** "of T and U of PASS, whatever came of the other one" */
    private static void bothOfPass() {
        Kit.due("T, U without power", 1, asked("pass 1 1 2 1 1", b -> b.terminal(2, 0, 0)));
        Kit.due("T, U not legal", 1, asked("pass 1 1 2 1 1", b -> b.terminal(2, 8, 0)));
        Kit.due("T, U busy", 1, asked("pass 1 1 2 1 1", b -> b.terminal(2, 1, 1)));
        Kit.due("T, U turned", 1, asked("pass 1 1 2 1 1", b -> b.noise(1, 5)));
        Kit.due("T, command of U turned", 1, asked("pass 1 1 2 1 1", b -> b.noise(1, 1)));
        Kit.due("T turned", 0, asked("pass 1 1 2 1 1", b -> b.noise(1, 4)));
        Kit.due("T not legal", 1, asked("pass 1 1 2 1 1", b -> b.terminal(1, 8, 0)));
        Kit.due("T busy", 1, asked("pass 1 1 2 1 1", b -> b.terminal(1, 1, 1)));
        Kit.due("U, T busy: no answer of U", 0, asked("pass 2 1 1 1 1", b -> b.terminal(2, 1, 1)));
        Kit.due("U, T without power: no answer of U", 0, asked("pass 2 1 1 1 1", b -> b.terminal(2, 0, 0)));
        Kit.due("U busy", 1, asked("pass 2 1 1 1 1", b -> b.terminal(1, 1, 1)));
        Kit.due("U not legal", 1, asked("pass 2 1 1 1 1", b -> b.terminal(1, 8, 0)));
        Kit.due("U turned", 0, asked("pass 2 1 1 1 1", b -> b.noise(1, 5)));
    }

    /** "Nobody is wanted by it." */
    private static void notByOnce() {
        CommandBus b = new CommandBus();
        b.terminal(1, 2, 1);
        b.once(1, 0, 1, 1, 1);
        b.once(1, 1, 1, 1, 1);
        b.once(1, 3, 1, 0, 1);
        b.frame(1);
        Kit.due("nobody was asked", 0, b.bus(0, 3));
        Kit.due("service stays", 1, b.of(1, 2));
    }

    /** ALL has no answer, so nobody is wanted by it. */
    private static void notByAll() {
        Kit.due("all", 0, asked("all 1 1", b -> { }));
    }

    /** Once asked behind a FRAME, answered or not: the next FRAME has its own. */
    private static void forgotten() {
        CommandBus b = new CommandBus();
        b.terminal(1, 2, 1);
        b.terminal(1, 6, 1);
        Kit.table(b, "mode 1 1 every 8 at 0 on 1;");
        b.frame(1);
        Kit.due("asked", 1, b.bus(0, 3));
        Kit.due("in vain", 1, b.of(1, 2));
        b.frame(7);
        Kit.due("not asked again", 1, b.bus(0, 3));
        b.frame(1);
        Kit.due("till it told again", 2, b.bus(0, 3));
    }

    /** "VECTORS of a TERMINAL: what came by MODE 16 (whosever) with OUTCOME 0, 3, 4, and how many (0 at first)" */
    private static void vectors() {
        CommandBus b = new CommandBus();
        Kit.due("0 at first", 0, b.of(1, 16) + b.of(1, 17));
        b.terminal(1, 9, 11);
        b.once(0, 3, 1, 0, 16);
        Kit.due("by once", 11, b.of(1, 16));
        Kit.table(b, "mode 1 16 every 2 at 0 on 1;send 1 1 1 every 2 at 1 on 1;");
        b.terminal(1, 9, 12);
        b.frame(1);
        Kit.due("by a line", 12, b.of(1, 16));
        b.terminal(1, 9, 13);
        b.terminal(1, 2, 1);
        b.frame(1);
        Kit.due("by being wanted", 13, b.of(1, 16));
        Kit.due("how many", 3, b.of(1, 17));
        b.terminal(1, 9, 14);
        b.terminal(1, 1, 1);
        Kit.due("busy", 4, b.once(0, 3, 1, 0, 16));
        Kit.due("came", 14, b.of(1, 16));
        b.terminal(1, 9, 15);
        for (int k = 2; k <= 3; k++) {
            b.noise(0, k);
            Kit.due("turned", 2, b.once(0, 3, 1, 0, 16));
        }
        b.noise(0, 1);
        Kit.due("no answer", 1, b.once(0, 3, 1, 0, 16));
        Kit.due("did not come", 14, b.of(1, 16));
        Kit.due("how many", 4, b.of(1, 17));
        Kit.due("of others none", 0, b.of(0, 17) + b.of(2, 17));
    }

    /** "VECTOR (0 .. 65535; 0)" */
    private static void vectorBounds() {
        for (int v : new int[] {0, 1, 32767, 32768, 65534, 65535}) {
            CommandBus b = new CommandBus();
            b.terminal(7, 9, v);
            b.once(1, 3, 7, 0, 16);
            Kit.due("vector", v, b.heard(0, 2));
            Kit.due("came", v, b.of(7, 16));
            Kit.due("one", 1, b.of(7, 17));
        }
    }

    /** "the CONTROLLER is T behind this FRAME": who is wanted is asked by the one that was. */
    private static void aheadOfControl() {
        CommandBus b = new CommandBus();
        b.terminal(1, 2, 1);
        b.terminal(1, 5, 1);
        Kit.table(b, "hand 1 every 8 at 0 on 1;");
        b.frame(1);
        Kit.due("controls", 1, b.look(3));
        Kit.due("was asked", 1, b.of(1, 17));
        Kit.due("by first", 8, b.heard(2, 1));
        Kit.due("answered", 1, b.heard(0, 1));
    }
}
