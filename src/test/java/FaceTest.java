import java.util.Arrays;

/** Promises 1 to 6, 20, 21, 29, 32: what is told, and what can't be. */
public final class FaceTest {
    public static void main(String[] args) {
        newObject();
        settings();
        terminals();
        words();
        wordsApart();
        signals();
        noises();
        parities();
        Kit.finish();
    }

    private static void newObject() {
        CommandBus b = new CommandBus();
        Kit.due("NONE", -1, CommandBus.NONE);
        int[] first = {2000, 1, 0, 8, 0, 0, 0, 0, 0, 0, 0, 0, 0, 0, 0, 0};
        for (int what = 0; what < first.length; what++) {
            Kit.due("look " + what, first[what], b.look(what));
        }
        Kit.due("look 16", -100000, b.look(16));
        Kit.due("look -1", -100000, b.look(-1));
        int[] of = {1, 0, 0, 0, 0, 0, 0, 0, 126, 0, 0, 0, 0, -2, 0, 0, 0, 0};
        for (int t = 0; t < 8; t++) {
            for (int what = 0; what < of.length; what++) {
                Kit.due("of " + t + " " + what, what == 13 ? t << 11 : of[what], b.of(t, what));
            }
        }
        Kit.due("of first", 1, b.of(8, 0));
        for (int what = 1; what < 18; what++) {
            Kit.due("of first " + what, -1, b.of(8, what));
        }
        Kit.due("of 9", -1, b.of(9, 0));
        Kit.due("of -1", -1, b.of(-1, 0));
        Kit.due("of what", -1, b.of(0, 18));
        Kit.due("of what -1", -1, b.of(0, -1));
    }

    private static void settings() {
        CommandBus b = new CommandBus();
        Kit.due("minor 99", false, b.set(0, 99));
        Kit.due("minor 100", true, b.set(0, 100));
        Kit.due("minor", 100, b.look(0));
        Kit.due("minor 9999", true, b.set(0, 9999));
        Kit.due("minor 10000", false, b.set(0, 10000));
        Kit.due("minor", 9999, b.look(0));
        Kit.due("retries -1", false, b.set(1, -1));
        Kit.due("retries 0", true, b.set(1, 0));
        Kit.due("retries 3", true, b.set(1, 3));
        Kit.due("retries 4", false, b.set(1, 4));
        Kit.due("retries", 3, b.look(1));
        Kit.due("what 2", false, b.set(2, 100));
        Kit.due("what -1", false, b.set(-1, 100));
    }

    private static void terminals() {
        int[] most = {1, 1, 1, 1, 1, 1, 3, 3, 126, 65535};
        for (int what = 0; what < 10; what++) {
            CommandBus b = new CommandBus();
            for (int t = 0; t < 8; t++) {
                Kit.due("most " + what, true, b.terminal(t, what, most[what]));
                Kit.due("told " + what, most[what], b.of(t, what));
                Kit.due("more " + what, false, b.terminal(t, what, most[what] + 1));
                Kit.due("less " + what, false, b.terminal(t, what, -1));
                Kit.due("still " + what, most[what], b.of(t, what));
                Kit.due("zero " + what, true, b.terminal(t, what, 0));
                Kit.due("zero " + what, 0, b.of(t, what));
            }
            Kit.due("first " + what, what == 0, b.terminal(8, what, 0));
            Kit.due("first has none", what == 0 ? 0 : 1, b.of(8, 0));
        }
        CommandBus b = new CommandBus();
        Kit.due("legal odd", false, b.terminal(3, 8, 3));
        Kit.due("legal even", true, b.terminal(3, 8, 84));
        Kit.due("legal", 84, b.of(3, 8));
        Kit.due("what 10", false, b.terminal(0, 10, 0));
        Kit.due("what -1", false, b.terminal(0, -1, 0));
        Kit.due("terminal 9", false, b.terminal(9, 0, 1));
        Kit.due("terminal -1", false, b.terminal(-1, 0, 1));
    }

    private static void tellWords(CommandBus b, int t) {
        for (int sub = 1; sub <= 6; sub++) {
            for (int i = 0; i < 8; i++) {
                Kit.due("word", true, b.word(t, sub, i, (t + 2) * 1000 + sub * 100 + i));
            }
        }
    }

    /** Each part of the words is asked of an object of its own, for the 512 calls that one has. */
    private static void words() {
        for (int t = -1; t < 8; t++) {
            CommandBus all = new CommandBus();
            for (int u = -1; u < 8; u++) {
                tellWords(all, u);
            }
            CommandBus one = new CommandBus();
            tellWords(one, t);
            for (int sub = 1; sub <= 6; sub++) {
                for (int i = 0; i < 8; i++) {
                    Kit.due("at 0", (t + 2) * 1000 + sub * 100 + i, all.at(t, sub, i, 0));
                    Kit.due("at 1", t < 0 ? -1 : 0, one.at(t, sub, i, 1));
                    Kit.due("at 2", t < 0 ? -1 : 0, one.at(t, sub, i, 2));
                    Kit.due("at 3", -1, one.at(t, sub, i, 3));
                    Kit.due("at -1", -1, one.at(t, sub, i, -1));
                }
            }
        }
        CommandBus b = new CommandBus();
        int[][] wrong = {{-2, 1, 0, 0}, {8, 1, 0, 0}, {0, 0, 0, 0}, {0, 7, 0, 0}, {0, 1, -1, 0}, {0, 1, 8, 0},
            {-1, 0, 0, 0}, {-1, 7, 0, 0}, {-1, 1, 8, 0}, {-1, 1, -1, 0}};
        for (int[] w : wrong) {
            Kit.due("word that can't be", false, b.word(w[0], w[1], w[2], 7));
            Kit.due("at that can't be", -1, b.at(w[0], w[1], w[2], 0));
        }
        Kit.due("65535", true, b.word(0, 1, 0, 65535));
        Kit.due("65536", false, b.word(0, 1, 0, 65536));
        Kit.due("-1", false, b.word(0, 1, 0, -1));
        Kit.due("still", 65535, b.at(0, 1, 0, 0));
    }

    /** OUT, IN, GOT of each TERMINAL and SUB, SEND of each SUB: none of these words is another one. */
    private static void wordsApart() {
        Twins fresh = new Twins(b -> { });
        for (int sub = 1; sub <= 6; sub++) {
            int s = sub;
            for (int i = 0; i < 8; i++) {
                int k = i;
                fresh.touchedNoMoreThan("word of send", b -> b.word(-1, s, k, 77), "send " + (s - 1) + " " + k + " ");
                for (int t = 0; t < 8; t++) {
                    int u = t;
                    String out = "at " + (6 * t + s - 1) + " " + 3 * k + " ";
                    fresh.touchedNoMoreThan("word", b -> b.word(u, s, k, 77), out);
                }
            }
        }
        String[] told = {"look", "of", "bus", "tally", "heard", "trail"};
        for (int t = 0; t < 8; t++) {
            for (int sub = 1; sub <= 6; sub++) {
                int u = t;
                int s = sub;
                Twins full = new Twins(b -> {
                    for (int i = 0; i < 8; i++) {
                        b.word(-1, s, i, 300 + i);
                        b.word(u, s, i, 400 + i);
                    }
                });
                full.touchedNoMoreThan("send", b -> b.once(0, 0, u, s, 8), words(told, t, sub, 1));
                full.touchedNoMoreThan("get", b -> b.once(0, 1, u, s, 8), words(told, t, sub, 2));
            }
        }
    }

    private static String[] words(String[] told, int t, int sub, int what) {
        String[] all = Arrays.copyOf(told, told.length + 8);
        for (int i = 0; i < 8; i++) {
            all[told.length + i] = "at " + (6 * t + sub - 1) + " " + (3 * i + what) + " ";
        }
        return all;
    }

    private static void signals() {
        CommandBus b = new CommandBus();
        Kit.due("most", true, b.signal(7, 6, 999999, -999999));
        Kit.due("least", true, b.signal(0, 1, -999999, 999999));
        Kit.due("base", false, b.signal(0, 1, 1000000, 0));
        Kit.due("base", false, b.signal(0, 1, -1000000, 0));
        Kit.due("slope", false, b.signal(0, 1, 0, 1000000));
        Kit.due("slope", false, b.signal(0, 1, 0, -1000000));
        Kit.due("terminal", false, b.signal(8, 1, 0, 0));
        Kit.due("terminal", false, b.signal(-1, 1, 0, 0));
        Kit.due("sub", false, b.signal(0, 0, 0, 0));
        Kit.due("sub", false, b.signal(0, 7, 0, 0));
        Kit.due("no word yet", 0, b.at(0, 1, 0, 0));
    }

    private static void noises() {
        CommandBus b = new CommandBus();
        Kit.due("bus", -1, b.noise(2, 1));
        Kit.due("bus", -1, b.noise(-1, 1));
        Kit.due("0", -1, b.noise(0, 0));
        Kit.due("1000", -1, b.noise(0, 1000));
        for (int k = 1; k <= 8; k++) {
            Kit.due("told", k, b.noise(0, k == 8 ? 999 : 1));
        }
        Kit.due("ninth", -1, b.noise(0, 5));
        Kit.due("to come", 8, b.look(9));
        Kit.due("other", 1, b.noise(1, 5));
        Kit.due("to come", 1, b.look(10));
        b.once(0, 3, 0, 0, 1);
        Kit.due("seven are gone", 1, b.look(9));
        Kit.due("one word was turned", 1, b.bus(0, 1));
        Kit.due("room again", 2, b.noise(0, 3));
    }

    private static void parities() {
        CommandBus b = new CommandBus();
        for (int v = 0; v <= 65535; v += 257) {
            Kit.due("parity", Integer.bitCount(v) % 2 == 0 ? 1 : 0, b.parity(v));
        }
        Kit.due("65536", -1, b.parity(65536));
        Kit.due("-1", -1, b.parity(-1));
        Kit.due("32768", 0, b.parity(32768));
    }
}
