import java.util.Arrays;
import java.util.function.Consumer;

/** ==== 2. Who HEARS and who answers, what is taken (its first n), LEGAL of each SUB, CODES and their edges. */
public final class HearTest {
    private static final int ERROR = 1 << 10;

    public static void main(String[] args) {
        hears();
        controllerHearsNot();
        shutAnswersNot();
        firstNOfSend();
        firstNOfGet();
        firstNOfPass();
        firstNOfAll();
        nothingWhenRefused();
        turnedAheadOfAllElse();
        legalOfEachSub();
        timesOfTries();
        errorAndAllAreMadeNone();
        twoAndEighteenLeaveAll();
        codesWithAWord();
        otherCodes();
        statusOfEachCode();
        turnedCommand();
        wordsLaid();
        shutOfEachBus();
        manyErrors();
        eraseBelow();
        tallyOfAll();
        handsOfFirst();
        passEnds();
        Kit.finish();
    }

    private static int outcome(Consumer<CommandBus> told, int bus, int kind) {
        CommandBus b = new CommandBus();
        told.accept(b);
        return b.once(bus, kind, 3, 1, 1);
    }

    /** "A TERMINAL HEARS on a BUS: POWER, not DEAF there, not the CONTROLLER." */
    private static void hears() {
        for (int kind : new int[] {0, 1, 3}) {
            for (int bus = 0; bus < 2; bus++) {
                Kit.due("hears", 0, outcome(b -> { }, bus, kind));
                Kit.due("no power", 1, outcome(b -> b.terminal(3, 0, 0), bus, kind));
                for (int deaf = 0; deaf < 4; deaf++) {
                    int set = deaf;
                    int due = (deaf >> bus & 1) != 0 ? 1 : 0;
                    Kit.due("deaf " + deaf + " on " + bus, due, outcome(b -> b.terminal(3, 6, set), bus, kind));
                    Kit.due("others are", 0, outcome(b -> b.terminal(4, 6, set), bus, kind));
                }
            }
        }
        CommandBus b = new CommandBus();
        b.word(-1, 1, 0, 9);
        b.terminal(3, 6, 1);
        b.once(0, 0, 3, 1, 1);
        Kit.due("nothing taken", 0, b.at(3, 1, 0, 1));
        Kit.due("no command", 0, b.of(3, 14));
        Kit.due("status as at first", 3 << 11, b.of(3, 13));
        b.once(0, 2, 0, 1, 1);
        Kit.due("nor for all", 0, b.of(3, 14));
        Kit.due("but the others", 9, b.at(2, 1, 0, 1));
    }

    /** "not the CONTROLLER": what goes to all does not come to it. */
    private static void controllerHearsNot() {
        CommandBus b = new CommandBus();
        b.terminal(3, 5, 1);
        Kit.table(b, "hand 3 every 8 at 0 on 0;");
        b.frame(1);
        int command = b.of(3, 14);
        b.word(-1, 1, 0, 9);
        Kit.due("all", 0, b.once(0, 2, 0, 1, 1));
        Kit.due("nothing taken", 0, b.at(3, 1, 0, 1));
        Kit.due("its last command", command, b.of(3, 14));
        Kit.due("who laid it", 3, b.heard(0, 1));
        Kit.due("trail", 3, b.trail(1));
        Kit.due("the others", 9, b.at(4, 1, 0, 1));
    }

    /** "(One that is SHUT takes what comes, does what is told, and only does not answer.)" */
    private static void shutAnswersNot() {
        for (int bus = 0; bus < 2; bus++) {
            CommandBus b = new CommandBus();
            b.once(1 - bus, 3, 3, 0, 4);
            Kit.due("shut", 1 << bus, b.of(3, 10));
            b.word(-1, 2, 0, 9);
            Kit.due("shut", 1, b.once(bus, 0, 3, 2, 1));
            Kit.due("takes it", 9, b.at(3, 2, 0, 1));
            Kit.due("not shut there", 0, b.once(1 - bus, 0, 3, 2, 1));
            Kit.due("shut", 1, b.once(bus, 3, 3, 0, 6));
            Kit.due("does it", 1, b.of(3, 11));
            Kit.due("took", 58 + 38, b.bus(bus, 4));
            b.once(bus, 2, 0, 2, 1);
            Kit.due("for all, too", 3 << 11 | 16, b.of(3, 13));
        }
    }

    private static CommandBus filled() {
        CommandBus b = new CommandBus();
        for (int i = 0; i < 8; i++) {
            b.word(-1, 2, i, 100 + i);
            b.word(3, 2, i, 200 + i);
        }
        return b;
    }

    private static void firstN(CommandBus b, int t, int sub, int what, int n, int from) {
        for (int i = 0; i < 8; i++) {
            Kit.due("word " + i + " of " + n, i < n ? from + i : 0, b.at(t, sub, i, what));
        }
    }

    /** "IN of s, its first n, are these" */
    private static void firstNOfSend() {
        for (int n = 1; n <= 8; n++) {
            CommandBus b = filled();
            Kit.due("send", 0, b.once(0, 0, 3, 2, n));
            firstN(b, 3, 2, 1, n, 100);
            firstN(b, 3, 2, 2, 0, 0);
            Kit.due("the next sub", 0, b.at(3, 3, 0, 1));
            Kit.due("command", 3 << 11 | 2 << 5 | n, b.of(3, 14));
            Kit.due("words", n + 2, b.look(7));
        }
    }

    /** "GOT of T, s, its first n, are these" */
    private static void firstNOfGet() {
        for (int n = 1; n <= 8; n++) {
            CommandBus b = filled();
            Kit.due("get", 0, b.once(0, 1, 3, 2, n));
            firstN(b, 3, 2, 2, n, 200);
            firstN(b, 3, 2, 1, 0, 0);
            Kit.due("command", 3 << 11 | ERROR | 2 << 5 | n, b.of(3, 14));
            Kit.due("words", n + 2, b.look(7));
            for (int k = 2; k <= n + 2; k++) {
                CommandBus c = filled();
                c.noise(0, k);
                Kit.due("turned " + k, 2, c.once(0, 1, 3, 2, n));
                firstN(c, 3, 2, 2, 0, 0);
            }
        }
    }

    private static void firstNOfPass() {
        for (int n = 1; n <= 8; n++) {
            CommandBus b = filled();
            Kit.table(b, "pass 3 2 5 4 " + n + " every 1 at 0 on 0;");
            Kit.due("pass", 1, b.frame(1));
            firstN(b, 5, 4, 1, n, 200);
            firstN(b, 3, 2, 1, 0, 0);
            Kit.due("command of T", 3 << 11 | ERROR | 2 << 5 | n, b.of(3, 14));
            Kit.due("command of U", 5 << 11 | 4 << 5 | n, b.of(5, 14));
        }
    }

    private static void firstNOfAll() {
        for (int n = 1; n <= 8; n++) {
            CommandBus b = filled();
            Kit.due("all", 0, b.once(1, 2, 0, 2, n));
            for (int t = 0; t < 8; t++) {
                firstN(b, t, 2, 1, n, 100);
            }
            Kit.due("words", n + 1, b.look(8));
            for (int k = 1; k <= n + 1; k++) {
                CommandBus c = filled();
                c.noise(0, k);
                Kit.due("turned " + k, 0, c.once(0, 2, 0, 2, n));
                firstN(c, 7, 2, 1, 0, 0);
                Kit.due("error kept, if the command was right", k == 1 ? 7 << 11 : 7 << 11 | ERROR, c.of(7, 13));
                Kit.due("errors", k == 1 ? 0 : 1, c.of(7, 12));
            }
        }
    }

    /** "is any of these turned: ERROR kept, NO ANSWER. Else is s not LEGAL .. is it BUSY": nothing is taken. */
    private static void nothingWhenRefused() {
        for (int k = 1; k <= 4; k++) {
            CommandBus b = filled();
            b.noise(0, k);
            Kit.due("turned " + k, 1, b.once(0, 0, 3, 2, 3));
            firstN(b, 3, 2, 1, 0, 0);
            Kit.due("errors", k == 1 ? 0 : 1, b.of(3, 12));
            Kit.due("status", k == 1 ? 3 << 11 : 3 << 11 | ERROR, b.of(3, 13));
            Kit.due("command", k == 1 ? 0 : 3 << 11 | 2 << 5 | 3, b.of(3, 14));
        }
        CommandBus b = filled();
        b.terminal(3, 1, 1);
        Kit.due("busy", 4, b.once(0, 0, 3, 2, 3));
        firstN(b, 3, 2, 1, 0, 0);
        b.once(0, 2, 0, 2, 3);
        firstN(b, 3, 2, 1, 0, 0);
        Kit.due("nothing more: no ALL", 3 << 11 | 8, b.of(3, 13));
        b.terminal(3, 8, 122);
        b.once(0, 2, 0, 2, 3);
        Kit.due("not legal, and busy", 3 << 11 | ERROR | 8, b.of(3, 13));
        b.noise(0, 2);
        b.terminal(3, 8, 126);
        b.once(0, 2, 0, 2, 3);
        Kit.due("turned, and busy", 3 << 11 | ERROR | 8, b.of(3, 13));
        Kit.due("errors", 2, b.of(3, 12));
    }

    /** "is any of these turned: ERROR kept, NO ANSWER. Else ..": not LEGAL or BUSY, too, it answers nothing. */
    private static void turnedAheadOfAllElse() {
        for (int set = 0; set < 4; set++) {
            int busy = set & 1;
            CommandBus b = filled();
            b.frame(60);
            b.terminal(3, 1, busy);
            b.terminal(3, 8, set < 2 ? 126 : 0);
            int due = 3 << 11 | ERROR | 8 * busy;
            b.noise(0, 2);
            Kit.due("send", 1, b.once(0, 0, 3, 2, 3));
            Kit.due("status", due, b.of(3, 13));
            Kit.due("errors", 1, b.of(3, 12));
            firstN(b, 3, 2, 1, 0, 0);
            b.noise(0, 2);
            Kit.due("17", 1, b.once(0, 3, 3, 0, 17));
            Kit.due("status", due, b.of(3, 13));
            Kit.due("errors", 2, b.of(3, 12));
            Kit.due("no sync", 0, b.of(3, 15));
            b.noise(0, 2);
            Kit.due("all", 0, b.once(0, 2, 0, 2, 3));
            Kit.due("status", due, b.of(3, 13));
            Kit.due("errors", 3, b.of(3, 12));
            Kit.due("no answer of it", 3, b.bus(0, 2));
            Kit.due("17 that is right", busy == 1 ? 4 : 0, b.once(0, 3, 3, 0, 17));
            Kit.due("sync, busy or not", 60, b.of(3, 15));
        }
    }

    /** "LEGAL (a set of SUBS 1 .. 6, bits 1 .. 6)" */
    private static void legalOfEachSub() {
        for (int sub = 1; sub <= 6; sub++) {
            for (int legal = 1; legal <= 6; legal++) {
                CommandBus b = new CommandBus();
                b.terminal(3, 8, 1 << legal);
                int due = sub == legal ? 0 : 3;
                Kit.due("send " + sub + " of " + legal, due, b.once(0, 0, 3, sub, 1));
                Kit.due("get " + sub + " of " + legal, due, b.once(0, 1, 3, sub, 1));
                b.terminal(3, 8, 126 - (1 << legal));
                Kit.due("send " + sub + " but " + legal, 3 - due, b.once(0, 0, 3, sub, 1));
                Kit.due("get " + sub + " but " + legal, 3 - due, b.once(0, 1, 3, sub, 1));
                Kit.due("a mode is always", 0, b.once(0, 3, 3, 0, 1));
            }
        }
    }

    /** "by a TALK 8 later"; "14 later, without the 8, the TRY ends"; "Behind each TRY 4 go by." */
    private static void timesOfTries() {
        for (int n = 1; n <= 8; n++) {
            int laid = 20 + 20 * n;
            int status = n + 2;
            took("answered", laid + 8 + 20 + 4, b -> { }, 0, n);
            took("no answer", laid + 14 + 4, b -> b.terminal(3, 0, 0), 0, n);
            took("turned command", laid + 14 + 4, b -> b.noise(0, 1), 0, n);
            took("turned answer", laid + 8 + 20 + 4, b -> b.noise(0, status), 0, n);
            took("busy", laid + 8 + 20 + 4, b -> b.terminal(3, 1, 1), 0, n);
            took("answered", 20 + 8 + laid + 4, b -> { }, 1, n);
            took("no answer", 20 + 14 + 4, b -> b.terminal(3, 0, 0), 1, n);
            took("turned answer", 20 + 8 + laid + 4, b -> b.noise(0, 2), 1, n);
            took("busy: status alone", 20 + 8 + 20 + 4, b -> b.terminal(3, 1, 1), 1, n);
            took("not legal: status alone", 20 + 8 + 20 + 4, b -> b.terminal(3, 8, 0), 1, n);
            took("for all", laid + 4, b -> { }, 2, n);
            took("for all, held", laid + 4, b -> b.terminal(3, 7, 3), 2, n);
        }
    }

    private static void took(String name, int time, Consumer<CommandBus> told, int kind, int n) {
        CommandBus b = new CommandBus();
        told.accept(b);
        b.once(0, kind, 3, 1, n);
        Kit.due(name + " of " + n, time, b.bus(0, 4));
        Kit.due("the longest", time, b.bus(0, 5));
        Kit.due("one try", 1, b.bus(0, 3));
        b.once(0, 2, 0, 1, 1);
        Kit.due("in all", time + 44, b.bus(0, 4));
        Kit.due("the longest", Math.max(time, 44), b.bus(0, 5));
    }

    /** "makes its ERROR, ALL none, then it is its LAST COMMAND" */
    private static void errorAndAllAreMadeNone() {
        CommandBus b = new CommandBus();
        b.once(0, 2, 0, 1, 1);
        Kit.due("all", 3 << 11 | 16, b.of(3, 13));
        b.once(0, 0, 3, 1, 1);
        Kit.due("none", 3 << 11, b.of(3, 13));
        b.terminal(3, 8, 0);
        b.once(0, 0, 3, 1, 1);
        Kit.due("error", 3 << 11 | ERROR, b.of(3, 13));
        b.terminal(3, 8, 126);
        b.noise(0, 1);
        b.once(0, 0, 3, 1, 1);
        Kit.due("a turned command makes nothing none", 3 << 11 | ERROR, b.of(3, 13));
        b.once(0, 2, 0, 1, 1);
        Kit.due("one for all does", 3 << 11 | 16, b.of(3, 13));
        b.once(0, 3, 4, 0, 1);
        Kit.due("one of another does not", 3 << 11 | 16, b.of(3, 13));
    }

    /** "(but CODES 2, 18)" */
    private static void twoAndEighteenLeaveAll() {
        for (int code : new int[] {2, 18}) {
            CommandBus b = new CommandBus();
            b.terminal(3, 8, 0);
            b.terminal(3, 1, 1);
            b.once(0, 0, 3, 1, 1);
            int command = 3 << 11 | 1 << 5 | 1;
            b.terminal(3, 1, 0);
            b.terminal(3, 4, 1);
            Kit.due("outcome 0 all the same", 0, b.once(0, 3, 3, 0, code));
            Kit.due("as it was", 3 << 11 | ERROR | 8, b.heard(code == 2 ? 0 : 1, 2));
            Kit.due("status", 3 << 11 | ERROR | 8, b.of(3, 13));
            Kit.due("command", command, b.of(3, 14));
            Kit.due("errors", 1, b.of(3, 12));
            b.noise(0, 2);
            Kit.due("turned", 2, b.once(0, 3, 3, 0, code));
            b.terminal(3, 0, 0);
            Kit.due("no answer", 1, b.once(0, 3, 3, 0, code));
        }
        CommandBus b = new CommandBus();
        Kit.due("18 of a new one", 0, b.once(0, 3, 7, 0, 18));
        Kit.due("status", 7 << 11, b.heard(1, 2));
        Kit.due("command", 0, b.heard(0, 2));
    }

    /** "16, 18, 19 answer with one WORD more than STATUS"; 17 is told one. */
    private static void codesWithAWord() {
        for (int code = 1; code < 32; code++) {
            CommandBus b = new CommandBus();
            b.once(0, 3, 3, 0, code);
            boolean more = code >= 16 && code <= 19;
            Kit.due("words of " + code, more ? 3 : 2, b.look(7));
            Kit.due("time of " + code, more ? 72 : 52, b.bus(0, 4));
            Kit.due("command of " + code, 3 << 11 | (code == 17 ? 0 : ERROR) | code, b.heard(more ? 2 : 1, 2));
            Kit.due("who laid the second", code == 17 ? 8 : 3, b.heard(more ? 1 : 0, 1));
        }
    }

    /** "Others: ERROR told." */
    private static void otherCodes() {
        int[] known = {1, 2, 4, 5, 6, 7, 8, 16, 17, 18, 19};
        for (int code = 1; code < 32; code++) {
            boolean is = Arrays.binarySearch(known, code) >= 0;
            CommandBus b = new CommandBus();
            Kit.due("code " + code, is ? 0 : 3, b.once(1, 3, 3, 0, code));
            Kit.due("errors", is ? 0 : 1, b.of(3, 12));
            boolean kept = code == 2 || code == 18;
            Kit.due("command", kept ? 0 : 3 << 11 | (code == 17 ? 0 : ERROR) | code, b.of(3, 14));
        }
    }

    /** "SERVICE, BUSY, SYSTEM, FLAG as they are (FLAG not when MUTE), ERROR, ALL, TAKES by what follows": no other bit. */
    private static void statusOfEachCode() {
        for (int code = 1; code < 32; code++) {
            for (int flags = 0; flags < 16; flags++) {
                CommandBus b = new CommandBus();
                for (int what = 1; what <= 4; what++) {
                    b.terminal(3, what, flags >> what - 1 & 1);
                }
                b.once(0, 2, 0, 1, 1);
                int before = b.of(3, 13);
                b.once(0, 3, 3, 0, code);
                boolean known = code >= 4 && code <= 8 || code >= 16 && code <= 19 || code <= 2;
                int due = 3 << 11 | (known ? 0 : ERROR) | ((flags & 1) != 0 ? 8 : 0) | ((flags & 2) != 0 ? 256 : 0)
                    | ((flags & 4) != 0 ? 4 : 0) | ((flags & 8) != 0 && code != 6 ? 1 : 0);
                boolean kept = code == 2 || code == 18;
                boolean more = code == 16 || code >= 18 && code <= 19;
                Kit.due("status of " + code, kept ? before : due, b.heard(more ? 1 : 0, 2));
                Kit.due("last status of " + code, kept ? before : due, b.of(3, 13));
            }
        }
        for (int accepts = 0; accepts < 2; accepts++) {
            CommandBus b = new CommandBus();
            b.terminal(3, 5, accepts);
            Kit.table(b, "hand 3 every 1 at 0 on 0;");
            b.frame(1);
            Kit.due("status of hand", 3 << 11 | 2 * accepts, b.heard(0, 2));
            Kit.due("last status", 3 << 11 | 2 * accepts, b.of(3, 13));
            Kit.due("accepts is told by hand alone", 3 << 11, told(accepts));
        }
    }

    private static int told(int accepts) {
        CommandBus b = new CommandBus();
        b.terminal(3, 5, accepts);
        b.once(0, 3, 3, 0, 1);
        return b.heard(0, 2);
    }

    /** "A right COMMAND": one that was turned leaves the terminal as it was, whatever it told. */
    private static void turnedCommand() {
        Consumer<CommandBus> past = b -> {
            b.terminal(3, 2, 1);
            b.terminal(3, 4, 1);
            b.once(1, 3, 3, 0, 9);
            b.once(1, 3, 3, 0, 4);
        };
        Twins twins = new Twins(past);
        for (int code = 1; code < 32; code++) {
            int c = code;
            twins.touchedNoMoreThan("turned code " + code, b -> {
                b.noise(0, 1);
                Kit.due("no answer", 1, b.once(0, 3, 3, 0, c));
            }, "look", "bus", "tally", "heard", "trail");
        }
        for (int kind = 0; kind < 2; kind++) {
            int k = kind;
            twins.touchedNoMoreThan("turned kind " + kind, b -> {
                b.noise(0, 1);
                Kit.due("no answer", 1, b.once(0, k, 3, 1, 2));
            }, "look", "bus", "tally", "heard", "trail");
        }
        twins.touchedNoMoreThan("turned for all", b -> {
            b.noise(0, 1);
            Kit.due("for all", 0, b.once(0, 2, 3, 1, 2));
        }, "look", "bus", "heard", "trail");
    }

    /** "COMMAND: bits 15 .. 11 TERMINAL (31: all), 10 (1: it is to talk), 9 .. 5 SUB, 4 .. 0 COUNT": every word, as laid. */
    private static void wordsLaid() {
        for (int t = 0; t < 8; t++) {
            for (int sub = 1; sub <= 6; sub++) {
                CommandBus b = new CommandBus();
                b.word(-1, sub, 0, 21);
                b.word(-1, sub, 1, 22);
                b.word(t, sub, 0, 31);
                b.once(0, 0, t, sub, 2);
                laid(b, t << 11 | sub << 5 | 2, 21, 22, t << 11);
                b.once(0, 1, t, sub, 1);
                laid(b, t << 11 | ERROR | sub << 5 | 1, t << 11, 31);
                b.once(0, 2, t, sub, 1);
                laid(b, 31 << 11 | sub << 5 | 1, 21);
                b.once(0, 3, t, sub, 18);
                laid(b, t << 11 | ERROR | 18, t << 11 | 16, 31 << 11 | sub << 5 | 1);
            }
        }
    }

    private static void laid(CommandBus b, int... words) {
        for (int i = 0; i < words.length; i++) {
            Kit.due("word " + i, words[words.length - 1 - i], b.heard(i, 2));
        }
    }

    /** "4: it is SHUT on the other BUS. 5: not any more there.": of each BUS, told twice, told where it is not. */
    private static void shutOfEachBus() {
        for (int bus = 0; bus < 2; bus++) {
            CommandBus b = new CommandBus();
            int other = 2 >> bus;
            Kit.due("5 ahead of any 4", 0, b.once(bus, 3, 3, 0, 5));
            Kit.due("nowhere", 0, b.of(3, 10));
            b.once(bus, 3, 3, 0, 4);
            b.once(bus, 3, 3, 0, 4);
            Kit.due("there", other, b.of(3, 10));
            b.once(1 - bus, 3, 3, 0, 5);
            Kit.due("5 from there opens here alone", other, b.of(3, 10));
            b.once(1 - bus, 3, 3, 0, 4);
            Kit.due("both", 3, b.of(3, 10));
            Kit.due("nobody answers", 1, b.once(bus, 3, 3, 0, 1));
            Kit.due("5 is done all the same", 1, b.once(bus, 3, 3, 0, 5));
            Kit.due("open there", 3 - other, b.of(3, 10));
            Kit.due("8 opens all and is answered", 0, b.once(bus, 3, 3, 0, 8));
            Kit.due("nowhere", 0, b.of(3, 10));
        }
    }

    /** "19: STATUS, ERRORS .. (19: 16 bits of ERRORS)": beyond 65535 the count goes on, the WORD begins anew. */
    private static void manyErrors() {
        CommandBus b = new CommandBus();
        Kit.table(b, Scenes.every(24, "mode3 3"));
        for (int k = 0; k < 45; k++) {
            b.frame(60);
        }
        Kit.due("errors", 45 * 60 * 24, b.of(3, 12));
        b.frame(30);
        Kit.due("errors", 65520, b.of(3, 12));
        for (int k = 0; k < 15; k++) {
            b.once(0, 3, 3, 0, 3);
        }
        b.once(0, 3, 3, 0, 19);
        Kit.due("65535", 65535, b.heard(0, 2));
        b.once(0, 3, 3, 0, 3);
        b.once(0, 3, 3, 0, 19);
        Kit.due("the word", 0, b.heard(0, 2));
        Kit.due("the count", 65536, b.of(3, 12));
        b.once(0, 3, 3, 0, 3);
        b.once(0, 3, 3, 0, 19);
        Kit.due("the word", 1, b.heard(0, 2));
    }

    /** "8: SHUT nowhere, not MUTE, ERRORS 0.": all else stays. */
    private static void eraseBelow() {
        CommandBus b = filled();
        b.once(0, 0, 3, 2, 8);
        b.once(0, 3, 3, 0, 9);
        b.once(0, 3, 3, 0, 6);
        b.frame(5);
        b.once(0, 3, 3, 0, 17);
        b.once(0, 3, 3, 0, 4);
        Kit.due("8", 0, b.once(0, 3, 3, 0, 8));
        Kit.due("shut, mute, errors", 0, b.of(3, 10) + b.of(3, 11) + b.of(3, 12));
        Kit.due("sync", 5, b.of(3, 15));
        firstN(b, 3, 2, 1, 8, 100);
        Kit.due("its status", 3 << 11, b.of(3, 13));
    }

    /** "TALLY .. (SEND, GET, MODE, hand; PASS to both)": ALL to nobody; "(hand without TAKES: 0)". */
    private static void tallyOfAll() {
        CommandBus b = new CommandBus();
        Kit.table(b, "all 1 1 every 1 at 0 on 0;hand 3 every 1 at 0 on 0;pass 1 1 2 1 1 every 1 at 0 on 0;");
        b.frame(1);
        int[] due = {0, 1, 1, 1, 0, 0, 0, 0, 0};
        for (int t = 0; t < 9; t++) {
            Kit.due("tally of " + t, due[t], b.tally(t, 0));
            for (int o = 1; o < 5; o++) {
                Kit.due("tally of " + t, 0, b.tally(t, o));
            }
            Kit.due("no tally", -1, b.tally(t, 5));
        }
        Kit.due("hand without takes", 5, b.log(1, 4));
        Kit.due("counted by the line as such", 1, b.count(1, 5));
        Kit.due("not as 0", 0, b.count(1, 0));
    }

    /** "(8: FIRST always; it answers with its number 8)"; "FIRST, not CONTROLLER, POWER" */
    private static void handsOfFirst() {
        CommandBus b = new CommandBus();
        b.terminal(3, 5, 1);
        Kit.table(b, "hand 3 every 2 at 0 on 0;hand 8 every 2 at 1 on 0;");
        b.frame(1);
        b.terminal(8, 0, 0);
        b.frame(1);
        Kit.due("without power", 1, b.log(0, 4));
        Kit.due("two tries", 2, b.tally(8, 1));
        Kit.due("3 goes on", 3, b.look(3));
        b.frame(1);
        Kit.due("to itself", 7, b.log(0, 4));
        b.terminal(8, 0, 1);
        b.frame(1);
        Kit.due("takes it", 0, b.log(0, 4));
        Kit.due("8", 8, b.look(3));
        Kit.due("its status", 8 << 11 | 2, b.heard(0, 2));
        Kit.due("its command", 8 << 11 | ERROR, b.heard(1, 2));
        Kit.due("who", 8, b.heard(0, 1));
        Kit.due("tally", 1, b.tally(8, 0));
        b.frame(1);
        Kit.due("and back", 3, b.look(3));
        Kit.due("moves", 3, b.look(14));
        CommandBus c = new CommandBus();
        c.terminal(3, 5, 1);
        c.terminal(3, 1, 1);
        Kit.table(c, "hand 3 every 1 at 0 on 0;");
        c.frame(1);
        Kit.due("busy", 4, c.log(0, 4));
        Kit.due("takes, but busy", 3 << 11 | 8 | 2, c.heard(0, 2));
        Kit.due("so nothing is handed", 8, c.look(3));
    }

    /** "OUTCOMES 1 to 4 of T end it": U lays nothing then, and takes nothing. */
    private static void passEnds() {
        for (int outcome = 0; outcome <= 4; outcome++) {
            CommandBus b = filled();
            b.set(1, 0);
            Kit.table(b, "pass 3 2 5 4 2 every 1 at 0 on 0;");
            if (outcome == 1) {
                b.terminal(3, 0, 0);
            } else if (outcome == 2) {
                b.noise(0, 5);
            } else if (outcome == 3) {
                b.terminal(3, 8, 0);
            } else if (outcome == 4) {
                b.terminal(3, 1, 1);
            }
            b.frame(1);
            Kit.due("outcome", outcome, b.log(0, 4));
            Kit.due("talks of U", outcome == 0 ? 5 : outcome == 1 ? 8 : 3, b.trail(1));
            Kit.due("in of U", outcome == 0 ? 200 : 0, b.at(5, 4, 0, 1));
            Kit.due("U heard its own command", 5 << 11 | 4 << 5 | 2, b.of(5, 14));
            Kit.due("U keeps error", outcome == 2 ? 5 << 11 | ERROR : 5 << 11, b.of(5, 13));
            Kit.due("errors of U", outcome == 2 ? 1 : 0, b.of(5, 12));
        }
    }
}
