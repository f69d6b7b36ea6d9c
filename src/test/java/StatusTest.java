import java.util.Arrays;

/** ==== 2. Every WORD of SEND, GET, ALL and MODE as it is laid, with every STATUS, and what of it is kept. */
public final class StatusTest {
    private static final int ERROR = 1 << 10;
    private static final int SERVICE = 1 << 8;
    private static final int ALL = 1 << 4;
    private static final int BUSY = 1 << 3;
    private static final int SYSTEM = 1 << 2;

    public static void main(String[] args) {
        everySendAndGet();
        everyStatus();
        turnedByKind();
        whatCodesChange();
        longestOfEachBus();
        Kit.finish();
    }

    private static CommandBus filled(int t, int sub) {
        CommandBus b = new CommandBus();
        for (int i = 0; i < 8; i++) {
            b.word(-1, sub, i, 1000 + 7 * i);
            b.word(t, sub, i, 65535 - 3 * i);
        }
        return b;
    }

    /** The latest WORDS, as laid: how many of them by the CONTROLLER, the others by a TERMINAL. */
    private static void laid(CommandBus b, int bus, int t, int own, int... words) {
        for (int k = 0; k < words.length; k++) {
            int i = words.length - 1 - k;
            Kit.due("bus of word " + k, bus, b.heard(i, 0));
            Kit.due("who laid word " + k, k < own ? 8 : t, b.heard(i, 1));
            Kit.due("word " + k, words[k], b.heard(i, 2));
            Kit.due("parity of word " + k, 1 - Integer.bitCount(words[k]) % 2, b.heard(i, 3));
        }
        Kit.due("no more", words.length, b.look(7 + bus));
    }

    /** Each TERMINAL, SUB, n, BUS: what is laid, and by whom. */
    private static void everySendAndGet() {
        for (int t = 0; t < 8; t++) {
            for (int sub = 1; sub <= 6; sub++) {
                for (int n = 1; n <= 8; n++) {
                    int bus = (t + sub + n) % 2;
                    int[] send = new int[n + 2];
                    int[] get = new int[n + 2];
                    for (int i = 0; i < n; i++) {
                        send[i + 1] = 1000 + 7 * i;
                        get[i + 2] = 65535 - 3 * i;
                    }
                    send[0] = t << 11 | sub << 5 | n;
                    send[n + 1] = t << 11;
                    get[0] = t << 11 | 1 << 10 | sub << 5 | n;
                    get[1] = t << 11;
                    CommandBus b = filled(t, sub);
                    Kit.due("send", 0, b.once(bus, 0, t, sub, n));
                    laid(b, bus, t, n + 1, send);
                    Kit.due("trail", 100 + bus, b.trail(0));
                    Kit.due("trail", 10 * bus + t, b.trail(1));
                    Kit.due("trail", 10 * bus + 8, b.trail(2));
                    CommandBus c = filled(t, sub);
                    Kit.due("get", 0, c.once(bus, 1, t, sub, n));
                    laid(c, bus, t, 1, get);
                    Kit.due("trail", 10 * bus + t, c.trail(1));
                    CommandBus d = filled(t, sub);
                    Kit.due("all", 0, d.once(bus, 2, 0, sub, n));
                    int[] all = Arrays.copyOf(send, n + 1);
                    all[0] = 31 << 11 | sub << 5 | n;
                    laid(d, bus, t, n + 1, all);
                    Kit.due("trail", 10 * bus + 8, d.trail(1));
                    Kit.due("one talk", 1, d.bus(bus, 2));
                }
            }
        }
    }

    /** "SERVICE, BUSY, SYSTEM, FLAG as they are (FLAG not when MUTE), ERROR, ALL .." of each kind, LEGAL or not. */
    private static void everyStatus() {
        for (int set = 0; set < 64; set++) {
            boolean busy = (set & 1) != 0;
            boolean legal = (set & 16) == 0;
            boolean mute = (set & 32) != 0;
            int bits = (busy ? BUSY : 0) | ((set & 2) != 0 ? SERVICE : 0) | ((set & 4) != 0 ? SYSTEM : 0)
                | ((set & 8) != 0 && !mute ? 1 : 0);
            for (int kind = 0; kind <= 2; kind++) {
                CommandBus b = new CommandBus();
                if (mute) {
                    b.once(1, 3, 6, 0, 6);
                }
                for (int what = 1; what <= 4; what++) {
                    b.terminal(6, what, set >> what - 1 & 1);
                }
                b.terminal(6, 8, legal ? 126 : 126 - (1 << 4));
                int due = 6 << 11 | bits | (legal ? 0 : ERROR) | (kind == 2 && legal && !busy ? ALL : 0);
                String name = "kind " + kind + " of " + set;
                Kit.due(name, kind == 2 ? 0 : !legal ? 3 : busy ? 4 : 0, b.once(0, kind, 6, 4, 2));
                Kit.due("last status of " + name, due, b.of(6, 13));
                boolean words = kind == 1 && legal && !busy;
                Kit.due("status of " + name, kind == 2 ? 0 : due, b.heard(words ? 2 : 0, 2));
                Kit.due("errors of " + name, legal ? 0 : 1, b.of(6, 12));
                Kit.due("command of " + name, (kind == 2 ? 31 : 6) << 11 | kind % 2 << 10 | 4 << 5 | 2, b.of(6, 14));
            }
        }
    }

    /** A turned WORD behind a right COMMAND: ERROR kept, of that TERMINAL, by that COMMAND. */
    private static void turnedByKind() {
        for (int t = 0; t < 8; t++) {
            for (int sub = 1; sub <= 6; sub++) {
                int n = 1 + (t * 5 + sub * 3) % 8;
                CommandBus b = new CommandBus();
                b.noise(0, 1 + n);
                Kit.due("send", 1, b.once(0, 0, t, sub, n));
                kept(b, t, t << 11 | sub << 5 | n);
                CommandBus c = new CommandBus();
                c.noise(0, 2);
                Kit.due("code 17", 1, c.once(0, 3, t, 0, 17));
                kept(c, t, t << 11 | 17);
                CommandBus d = new CommandBus();
                d.noise(0, 2);
                Kit.due("all", 0, d.once(0, 2, 0, sub, n));
                for (int u = 0; u < 8; u++) {
                    Kit.due("command of " + u, 31 << 11 | sub << 5 | n, d.of(u, 14));
                    Kit.due("status of " + u, u << 11 | ERROR, d.of(u, 13));
                }
            }
        }
    }

    private static void kept(CommandBus b, int t, int command) {
        for (int u = 0; u < 8; u++) {
            Kit.due("command of " + u, u == t ? command : 0, b.of(u, 14));
            Kit.due("status of " + u, u << 11 | (u == t ? ERROR : 0), b.of(u, 13));
            Kit.due("errors of " + u, u == t ? 1 : 0, b.of(u, 12));
        }
        Kit.due("no answer", 1, b.bus(0, 2));
    }

    /** What each CODE changes of a TERMINAL, and nothing else of it, at a FRAME that is not 0. */
    private static void whatCodesChange() {
        for (int code = 1; code < 32; code++) {
            for (int bus = 0; bus < 2; bus++) {
                for (int busy = 0; busy < 2; busy++) {
                    changed(code, bus, busy, 0);
                    changed(code, bus, busy, 1);
                }
            }
        }
    }

    private static void changed(int code, int bus, int busy, int again) {
        CommandBus b = new CommandBus();
        b.frame(9);
        b.once(0, 3, 2, 0, 17);
        b.terminal(2, 8, 0);
        b.once(0, 0, 2, 1, 1);
        if (again != 0) {
            b.once(1 - bus, 3, 2, 0, 4);
            b.once(1 - bus, 3, 2, 0, 6);
        }
        b.terminal(2, 2, 1);
        b.terminal(2, 9, 4711);
        b.terminal(2, 1, busy);
        b.frame(8);
        int[] due = new int[18];
        for (int what = 0; what < 18; what++) {
            due[what] = b.of(2, what);
        }
        int shut = due[10];
        switch (code) {
            case 1: due[15] = 0; break;
            case 4: due[10] |= 2 >> bus; break;
            case 5: due[10] &= 1 << bus; break;
            case 6: due[11] = 1; break;
            case 7: due[11] = 0; break;
            case 8: due[10] = 0; due[11] = 0; due[12] = 0; break;
            case 16: due[2] = 0; break;
            case 17: due[15] = 17; break;
            case 2: case 18: case 19: break;
            default: due[12]++; break;
        }
        boolean answers = (due[10] >> bus & 1) == 0;
        boolean unknown = code == 3 || code > 8 && code < 16 || code > 19;
        if (code != 2 && code != 18) {
            due[13] = 2 << 11 | SERVICE | (busy != 0 ? BUSY : 0) | (unknown ? ERROR : 0);
            due[14] = 2 << 11 | (code == 17 ? 0 : 1 << 10) | code;
        }
        if (code == 16 && answers) {
            due[16] = 4711;
            due[17]++;
        }
        int outcome = !answers ? 1 : code == 2 || code == 18 ? 0 : unknown ? 3 : busy != 0 ? 4 : 0;
        String name = "code " + code + " on " + bus + " shut on " + shut;
        Kit.due(name, outcome, b.once(bus, 3, 2, 0, code));
        for (int what = 0; what < 18; what++) {
            Kit.due(name + " of " + what, due[what], b.of(2, what));
        }
    }

    /** "Of a BUS what .. 4 how long these took in all (with the 4 behind), 5 the longest": of that BUS alone. */
    private static void longestOfEachBus() {
        for (int bus = 0; bus < 2; bus++) {
            CommandBus b = new CommandBus();
            int[] n = {2, 1, 5, 4, 5, 8, 7};
            int all = 0;
            int most = 0;
            b.once(bus, 2, 0, 1, 6);
            for (int k = 0; k < n.length; k++) {
                b.once(1 - bus, 2, 0, 1, n[k]);
                all += 24 + 20 * n[k];
                most = Math.max(most, 24 + 20 * n[k]);
                int[] due = {all / 20 - (k + 1) / 5, 0, k + 1, k + 1, all, most};
                for (int what = 2; what < 6; what++) {
                    Kit.due("bus " + what, due[what], b.bus(1 - bus, what));
                }
                Kit.due("the other one", 144, b.bus(bus, 5));
                Kit.due("the other one", 144, b.bus(bus, 4));
                Kit.due("the other one", 7, b.bus(bus, 0));
            }
        }
    }
}
