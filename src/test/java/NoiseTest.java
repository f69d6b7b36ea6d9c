/** NOISE, HELD buses and what is turned: which word, how many, on which bus, and when it is gone. */
public final class NoiseTest {
    public static void main(String[] args) {
        eight();
        nth();
        farOff();
        fromThenOn();
        twiceTold();
        ofItsBus();
        answersToo();
        allAreLaid();
        held();
        heldKeepsNothing();
        anyOfThese();
        heldAndNoise();
        heldByWhom();
        collisions();
        noiseOfEvents();
        ninthOfEvents();
        Kit.finish();
    }

    /** "up to eight told of a BUS"; "how many are told there; NONE .. if .. there are eight." */
    private static void eight() {
        for (int bus = 0; bus < 2; bus++) {
            CommandBus b = new CommandBus();
            for (int k = 1; k <= 8; k++) {
                Kit.due("noise " + k, k, b.noise(bus, 10 * k));
                Kit.due("to come", k, b.look(9 + bus));
            }
            Kit.due("a ninth", -1, b.noise(bus, 5));
            Kit.due("still eight", 8, b.look(9 + bus));
            Kit.due("none there", 0, b.look(10 - bus));
            Kit.due("the other has room", 1, b.noise(1 - bus, 5));
            CommandBus c = new CommandBus();
            for (int k = 1; k <= 8; k++) {
                c.noise(bus, 10 * k);
            }
            c.noise(bus, 1);
            c.once(bus, 2, 0, 1, 8);
            Kit.due("the ninth turns nothing", 0, c.bus(bus, 1));
            c.once(bus, 2, 0, 1, 1);
            Kit.due("the first came", 1, c.bus(bus, 1));
            Kit.due("seven are left", 7, c.look(9 + bus));
            Kit.due("room for one", 8, c.noise(bus, 1));
            Kit.due("not for two", -1, c.noise(bus, 1));
        }
    }

    /** "the n-th WORD laid from then on upon that BUS is turned": it alone. */
    private static void nth() {
        for (int n = 1; n <= 10; n++) {
            CommandBus b = new CommandBus();
            b.noise(1, n);
            b.once(1, 2, 0, 1, 8);
            for (int i = 0; i < 9; i++) {
                int right = b.parity(b.heard(8 - i, 2));
                Kit.due("word " + (i + 1) + " with noise " + n, i + 1 == n ? 1 - right : right, b.heard(8 - i, 3));
            }
            Kit.due("turned", n <= 9 ? 1 : 0, b.bus(1, 1));
            Kit.due("to come", n <= 9 ? 0 : 1, b.look(10));
        }
    }

    /** "the n-th WORD (1 .. 999)": the 998th, 999th and 1000th behind the noise. */
    private static void farOff() {
        for (int n = 998; n <= 999; n++) {
            CommandBus b = new CommandBus();
            Kit.table(b, Scenes.every(11, "all1 8"));
            b.set(0, 9999);
            b.frame(3);
            Kit.due("far off", 1, b.noise(0, n));
            b.frame(10);
            Kit.due("990 later", 0, b.bus(0, 1));
            Kit.due("to come", 1, b.look(9));
            b.once(0, 2, 0, 1, n - 990 - 2);
            Kit.due("one word ahead", 0, b.bus(0, 1));
            b.once(0, 3, 1, 0, 1);
            Kit.due("the word", 1, b.bus(0, 1));
            Kit.due("laid", 297 + n, b.look(7));
            Kit.due("it was the command, so nobody answered", 8, b.heard(0, 1));
            Kit.due("gone", 0, b.look(9));
        }
    }

    /** "from then on": what was laid before does not count. */
    private static void fromThenOn() {
        CommandBus b = new CommandBus();
        b.once(0, 2, 0, 1, 3);
        b.noise(0, 2);
        b.once(0, 2, 0, 1, 8);
        Kit.due("the second from then on", 1 - b.parity(b.heard(7, 2)), b.heard(7, 3));
        Kit.due("it alone", 1, b.bus(0, 1));
    }

    /** "twice told .. turned; it is gone when it came": both at once, turned once. */
    private static void twiceTold() {
        CommandBus b = new CommandBus();
        Kit.due("one", 1, b.noise(0, 3));
        Kit.due("two", 2, b.noise(0, 3));
        Kit.due("three", 3, b.noise(0, 4));
        b.once(0, 2, 0, 1, 1);
        Kit.due("none came", 3, b.look(9));
        b.once(0, 2, 0, 1, 3);
        Kit.due("all came", 0, b.look(9));
        Kit.due("two words were turned", 2, b.bus(0, 1));
        Kit.due("turned, not turned back", 1 - b.parity(b.heard(3, 2)), b.heard(3, 3));
        Kit.due("turned", 1 - b.parity(b.heard(2, 2)), b.heard(2, 3));
        Kit.due("right", b.parity(b.heard(1, 2)), b.heard(1, 3));
        b.once(0, 2, 0, 1, 8);
        Kit.due("no more", 2, b.bus(0, 1));
        CommandBus c = new CommandBus();
        for (int k = 0; k < 8; k++) {
            c.noise(1, 1);
        }
        c.once(1, 2, 0, 1, 1);
        Kit.due("eight at once", 0, c.look(10));
        Kit.due("one word", 1, c.bus(1, 1));
    }

    /** "upon that BUS": words on the other one neither count nor turn. */
    private static void ofItsBus() {
        CommandBus b = new CommandBus();
        b.noise(0, 1);
        b.once(1, 2, 0, 1, 8);
        Kit.due("not there", 0, b.bus(1, 1));
        Kit.due("to come", 1, b.look(9));
        b.once(0, 2, 0, 1, 8);
        Kit.due("there", 1, b.bus(0, 1));
    }

    /** A WORD of an answer counts as any other. */
    private static void answersToo() {
        CommandBus b = new CommandBus();
        b.noise(0, 2);
        Kit.due("the status", 2, b.once(0, 3, 1, 0, 1));
        Kit.due("nothing to come", 0, b.look(9));
        b.noise(0, 3);
        Kit.due("the vector", 2, b.once(0, 3, 1, 0, 16));
        b.noise(0, 3);
        Kit.due("behind the answer", 0, b.once(0, 3, 1, 0, 1));
        Kit.due("the next command", 1, b.once(0, 3, 1, 0, 1));
    }

    /** "All WORDS of a TALK are laid, whatever is turned." */
    private static void allAreLaid() {
        CommandBus b = new CommandBus();
        b.noise(0, 1);
        b.noise(0, 4);
        b.once(0, 0, 1, 1, 8);
        Kit.due("nine", 9, b.look(7));
        Kit.due("none answers", 1, b.bus(0, 2));
        b.noise(0, 2);
        Kit.due("status turned", 2, b.once(0, 1, 1, 1, 8));
        Kit.due("one and nine more", 19, b.look(7));
        Kit.due("took", 9 * 20 + 18 + 20 + 8 + 180 + 4, b.bus(0, 4));
    }

    /** "The BUS is HELD .. all WORDS are turned then" */
    private static void held() {
        for (int babbles = 0; babbles < 4; babbles++) {
            for (int bus = 0; bus < 2; bus++) {
                CommandBus b = new CommandBus();
                b.terminal(3, 7, babbles);
                boolean isHeld = (babbles >> bus & 1) != 0;
                Kit.due("send", isHeld ? 1 : 0, b.once(bus, 0, 1, 1, 2));
                Kit.due("turned", isHeld ? 3 : 0, b.bus(bus, 1));
                Kit.due("collisions", isHeld ? 1 : 0, b.look(6));
                Kit.due("all", isHeld ? 2 : 0, b.once(bus, 2, 1, 1, 2));
                Kit.due("who babbles answers as ever", isHeld ? 1 : 0, b.once(bus, 3, 3, 0, 1));
                Kit.due("collisions", isHeld ? 3 : 0, b.look(6));
            }
        }
    }

    /** On a HELD BUS the COMMAND itself is turned: nothing comes to any TERMINAL. */
    private static void heldKeepsNothing() {
        Twins twins = new Twins(b -> {
            b.terminal(3, 8, 0);
            b.once(0, 0, 3, 1, 1);
            b.terminal(3, 8, 126);
            b.word(-1, 1, 0, 5);
            b.terminal(6, 7, 1);
        });
        String[] told = {"look", "bus", "tally", "heard", "trail"};
        for (int n = 1; n <= 8; n++) {
            int words = n;
            twins.touchedNoMoreThan("send, held", b -> b.once(0, 0, 3, 1, words), told);
            twins.touchedNoMoreThan("get, held", b -> b.once(0, 1, 3, 1, words), told);
            twins.touchedNoMoreThan("all, held", b -> b.once(0, 2, 3, 1, words), told);
        }
        for (int code = 1; code < 32; code++) {
            int c = code;
            twins.touchedNoMoreThan("code " + code + ", held", b -> b.once(0, 3, 3, 0, c), told);
        }
    }

    /** "is any of these turned: ERROR kept"; the COMMAND among them: it was no right one. */
    private static void anyOfThese() {
        int error = 3 << 11 | 1 << 10;
        for (int kind = 0; kind <= 3; kind++) {
            for (int set = 0; set < (kind == 1 ? 2 : kind == 3 ? 4 : 16); set++) {
                CommandBus b = new CommandBus();
                for (int k = 0; k < 4; k++) {
                    if ((set >> k & 1) != 0) {
                        b.noise(0, k + 1);
                    }
                }
                Kit.due("outcome", kind == 2 || set == 0 ? 0 : 1, b.once(0, kind, 3, 1, kind == 3 ? 17 : 3));
                boolean right = (set & 1) == 0;
                Kit.due("kind " + kind + " of " + set, right && set != 0 ? error : 3 << 11 | (right && kind == 2 ? 16 : 0), b.of(3, 13));
                Kit.due("errors", right && set != 0 ? 1 : 0, b.of(3, 12));
                Kit.due("a command", right, b.of(3, 14) != 0);
                Kit.due("turned", Integer.bitCount(set), b.bus(0, 1));
            }
        }
    }

    /** "HELD, too: turned; it is gone when it came": once turned, and the noise is used up. */
    private static void heldAndNoise() {
        CommandBus b = new CommandBus();
        b.terminal(3, 7, 1);
        b.noise(0, 2);
        b.noise(0, 2);
        b.noise(0, 4);
        b.once(0, 2, 0, 1, 2);
        Kit.due("turned", 3, b.bus(0, 1));
        Kit.due("turned, not back", 1 - b.parity(b.heard(1, 2)), b.heard(1, 3));
        Kit.due("gone", 1, b.look(9));
        b.terminal(3, 7, 0);
        Kit.due("the fourth", 1, b.once(0, 3, 1, 0, 1));
        Kit.due("gone", 0, b.look(9));
    }

    /** "if a TERMINAL BABBLES there that has POWER and is not the CONTROLLER" */
    private static void heldByWhom() {
        for (int t = 0; t < 8; t++) {
            CommandBus b = new CommandBus();
            b.terminal(t, 7, 1);
            Kit.due("with power", 2, b.once(0, 2, 0, 1, 1));
            b.terminal(t, 0, 0);
            Kit.due("without", 0, b.once(0, 2, 0, 1, 1));
            b.terminal(t, 0, 1);
            Kit.due("with it again", 2, b.once(0, 2, 0, 1, 1));
            b.terminal(t, 5, 1);
            Kit.table(b, "hand " + t + " every 8 at 0 on 1;");
            b.frame(1);
            Kit.due("controls", t, b.look(3));
            Kit.due("its own bus", 0, b.once(0, 2, 0, 1, 1));
            b.terminal(t == 7 ? 0 : t + 1, 7, 1);
            Kit.due("another one", 2, b.once(0, 2, 0, 1, 1));
        }
    }

    /** "COLLISIONS one more for each TALK" */
    private static void collisions() {
        CommandBus b = new CommandBus();
        b.terminal(3, 7, 2);
        b.terminal(4, 7, 3);
        Kit.table(b, "all 1 1 every 1 at 0 on 1;send 1 1 1 every 1 at 0 on 1;");
        b.set(1, 3);
        b.frame(1);
        Kit.due("four tries each", 8, b.look(6));
        Kit.due("talks", 8, b.bus(0, 2) + b.bus(1, 2));
        b.terminal(4, 7, 0);
        b.frame(1);
        Kit.due("one each, then the other bus", 10, b.look(6));
        Kit.due("good there", 0, b.log(0, 4) + b.log(1, 4));
    }

    /** "What is told at F is done at the beginning of that FRAME": the noise counts from there. */
    private static void noiseOfEvents() {
        CommandBus b = new CommandBus();
        Kit.table(b, "mode 1 1 every 1 at 0 on 0;");
        Kit.events(b, "at 1 noise 0 2;at 3 noise 0 3;at 5 noise 1 1;");
        b.set(1, 0);
        int[] due = {0, 2, 0, 0, 1, 0};
        for (int f = 0; f < due.length; f++) {
            b.frame(1);
            Kit.due("frame " + f, due[f], b.log(0, 4));
        }
        Kit.due("on the other bus", 1, b.look(10));
    }

    /** "(a ninth NOISE: nothing)" */
    private static void ninthOfEvents() {
        for (int told = 6; told <= 8; told++) {
            CommandBus b = new CommandBus();
            for (int k = 0; k < told; k++) {
                b.noise(0, 900);
            }
            Kit.table(b, "mode 1 1 every 1 at 0 on 0;");
            Kit.events(b, "at 0 noise 0 2;at 0 noise 0 4;at 0 noise 1 7;");
            b.set(1, 0);
            b.frame(1);
            Kit.due("the eighth turns", told <= 7 ? 2 : 0, b.log(0, 4));
            Kit.due("it is gone, the other to come", told == 6 ? 7 : told, b.look(9));
            Kit.due("the other bus has room", 1, b.look(10));
            b.frame(1);
            Kit.due("the ninth is nothing", told == 6 ? 2 : 0, b.log(0, 4));
        }
    }
}
