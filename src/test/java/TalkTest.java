/** Promises 8, 24 to 27: single tries of SEND, GET, ALL, what was laid, let go and counted. */
public final class TalkTest {
    public static void main(String[] args) {
        sendAndGet();
        turnedWords();
        refusals();
        forAll();
        babble();
        deafAndShut();
        wrongCalls();
        rings();
        Kit.finish();
    }

    private static void sendAndGet() {
        CommandBus b = new CommandBus();
        b.word(-1, 2, 0, 11);
        b.word(-1, 2, 1, 12);
        b.word(-1, 2, 2, 13);
        Kit.due("send", 0, b.once(1, 0, 4, 2, 2));
        Kit.due("in 0", 11, b.at(4, 2, 0, 1));
        Kit.due("in 1", 12, b.at(4, 2, 1, 1));
        Kit.due("in 2", 0, b.at(4, 2, 2, 1));
        Kit.due("command", 4 << 11 | 2 << 5 | 2, b.of(4, 14));
        Kit.due("status", 4 << 11, b.of(4, 13));
        Kit.due("took", 92, b.bus(1, 4));
        b.word(4, 3, 0, 7);
        b.word(4, 3, 7, 9);
        Kit.due("get", 0, b.once(1, 1, 4, 3, 8));
        Kit.due("got 0", 7, b.at(4, 3, 0, 2));
        Kit.due("got 7", 9, b.at(4, 3, 7, 2));
        Kit.due("took", 92 + 212, b.bus(1, 4));
        Kit.due("longest", 212, b.bus(1, 5));
        Kit.due("words", 4 + 10, b.bus(1, 0));
        Kit.due("turned", 0, b.bus(1, 1));
        Kit.due("talks", 4, b.bus(1, 2));
        Kit.due("tries", 2, b.bus(1, 3));
        Kit.due("other bus", 0, b.bus(0, 3));
        Kit.due("tally", 2, b.tally(4, 0));
    }

    private static void turnedWords() {
        CommandBus b = new CommandBus();
        b.word(-1, 1, 0, 5);
        b.noise(0, 2);
        Kit.due("word turned", 1, b.once(0, 0, 1, 1, 1));
        Kit.due("took", 40 + 14 + 4, b.bus(0, 4));
        Kit.due("kept error", 1 << 11 | 1 << 10, b.of(1, 13));
        Kit.due("errors", 1, b.of(1, 12));
        Kit.due("not taken", 0, b.at(1, 1, 0, 1));
        Kit.due("its parity is the other", 0, b.heard(0, 3));
        Kit.due("parity of 5", 1, b.parity(5));
        b.noise(0, 3);
        Kit.due("status turned", 2, b.once(0, 0, 1, 1, 1));
        Kit.due("taken all the same", 5, b.at(1, 1, 0, 1));
        Kit.due("error is none", 1 << 11, b.of(1, 13));
        Kit.due("took", 58 + 72, b.bus(0, 4));
        b.word(1, 1, 1, 6);
        b.noise(0, 4);
        Kit.due("last word of an answer turned", 2, b.once(0, 1, 1, 1, 2));
        Kit.due("not got", 0, b.at(1, 1, 1, 2));
        Kit.due("words", 2 + 3 + 4, b.bus(0, 0));
        Kit.due("turned", 3, b.bus(0, 1));
        Kit.due("tally 1", 1, b.tally(1, 1));
        Kit.due("tally 2", 2, b.tally(1, 2));
    }

    private static void refusals() {
        CommandBus b = new CommandBus();
        b.terminal(2, 8, 126 - 8);
        Kit.due("not legal", 3, b.once(0, 0, 2, 3, 1));
        Kit.due("told", 2 << 11 | 1 << 10, b.heard(0, 2));
        Kit.due("get not legal", 3, b.once(0, 1, 2, 3, 4));
        Kit.due("status alone", 52 - 0 + 20 + 52, b.bus(0, 4));
        Kit.due("errors", 2, b.of(2, 12));
        b.terminal(2, 1, 1);
        Kit.due("both", 3, b.once(0, 1, 2, 3, 4));
        Kit.due("both are told", 2 << 11 | 1 << 10 | 8, b.heard(0, 2));
        Kit.due("busy", 4, b.once(0, 1, 2, 1, 4));
        Kit.due("busy is told", 2 << 11 | 8, b.heard(0, 2));
        b.word(-1, 1, 0, 99);
        Kit.due("busy", 4, b.once(0, 0, 2, 1, 1));
        Kit.due("not taken", 0, b.at(2, 1, 0, 1));
        Kit.due("errors", 3, b.of(2, 12));
        Kit.due("tally 3", 3, b.tally(2, 3));
        Kit.due("tally 4", 2, b.tally(2, 4));
        b.terminal(2, 1, 0);
        b.terminal(2, 2, 1);
        b.terminal(2, 3, 1);
        b.terminal(2, 4, 1);
        Kit.due("fine", 0, b.once(0, 0, 2, 1, 1));
        Kit.due("service, system, flag", 2 << 11 | 256 | 4 | 1, b.of(2, 13));
    }

    private static void forAll() {
        CommandBus b = new CommandBus();
        b.word(-1, 6, 0, 77);
        b.terminal(1, 0, 0);
        b.terminal(2, 6, 2);
        b.terminal(3, 8, 2);
        b.terminal(4, 1, 1);
        Kit.due("all", 0, b.once(0, 2, -5, 6, 1));
        Kit.due("took", 44, b.bus(0, 4));
        int command = 31 << 11 | 6 << 5 | 1;
        Kit.due("laid", command, b.heard(1, 2));
        int[] in = {77, 0, 77, 0, 0, 77, 77, 77};
        for (int t = 0; t < 8; t++) {
            Kit.due("in of " + t, in[t], b.at(t, 6, 0, 1));
            Kit.due("command of " + t, t == 1 ? 0 : command, b.of(t, 14));
            int bits = t == 1 ? 0 : t == 3 ? 1 << 10 : t == 4 ? 8 : 16;
            Kit.due("status of " + t, t << 11 | bits, b.of(t, 13));
            Kit.due("errors of " + t, t == 3 ? 1 : 0, b.of(t, 12));
            Kit.due("tally of " + t, 0, b.tally(t, 0));
        }
        b.noise(1, 2);
        Kit.due("noise or not", 0, b.once(1, 2, 0, 6, 1));
        Kit.due("deaf there", 2 << 11 | 16, b.of(2, 13));
        Kit.due("kept", 5 << 11 | 1 << 10, b.of(5, 13));
        b.terminal(6, 7, 2);
        Kit.due("held", 2, b.once(1, 2, 0, 6, 1));
        Kit.due("not heard", 5 << 11 | 1 << 10, b.of(5, 13));
        Kit.due("one talk", 1, b.look(6));
    }

    private static void babble() {
        CommandBus b = new CommandBus();
        b.terminal(3, 7, 1);
        b.noise(0, 1);
        Kit.due("held", 1, b.once(0, 0, 1, 1, 2));
        Kit.due("all turned", 3, b.bus(0, 1));
        Kit.due("noise is gone", 0, b.look(9));
        Kit.due("collisions", 1, b.look(6));
        Kit.due("no answer", 78, b.bus(0, 4));
        Kit.due("not on the other", 0, b.once(1, 0, 3, 1, 2));
        b.terminal(3, 0, 0);
        Kit.due("without power", 0, b.once(0, 0, 1, 1, 2));
        Kit.due("collisions", 1, b.look(6));
    }

    private static void deafAndShut() {
        CommandBus b = new CommandBus();
        b.terminal(5, 6, 1);
        Kit.due("deaf", 1, b.once(0, 0, 5, 1, 1));
        Kit.due("hears there", 0, b.once(1, 3, 5, 0, 4));
        Kit.due("shut", 1, b.of(5, 10));
        b.terminal(5, 6, 0);
        b.word(-1, 1, 0, 31);
        Kit.due("shut", 1, b.once(0, 0, 5, 1, 1));
        Kit.due("takes it", 31, b.at(5, 1, 0, 1));
        Kit.due("last command", 5 << 11 | 1 << 5 | 1, b.of(5, 14));
        b.terminal(5, 8, 0);
        Kit.due("shut", 1, b.once(0, 1, 5, 1, 1));
        Kit.due("would tell", 5 << 11 | 1 << 10, b.of(5, 13));
        Kit.due("counts", 1, b.of(5, 12));
        Kit.due("no talk of it", 100, b.trail(0));
        Kit.due("no talk of it", 8, b.trail(1));
        Kit.due("nothing more", 100, b.trail(2));
    }

    private static void wrongCalls() {
        CommandBus b = new CommandBus();
        int[][] calls = {{-1, 0, 0, 1, 1}, {2, 0, 0, 1, 1}, {0, -1, 0, 1, 1}, {0, 4, 0, 1, 1}, {0, 0, -1, 1, 1},
            {0, 1, 8, 1, 1}, {0, 0, 0, 0, 1}, {0, 1, 0, 7, 1}, {0, 0, 0, 1, 0}, {0, 1, 0, 1, 9}, {0, 2, 0, 0, 1},
            {0, 2, 0, 7, 1}, {0, 2, 0, 1, 0}, {0, 2, 0, 1, 9}, {0, 3, 0, 1, 0}, {0, 3, 0, 1, 32}, {0, 3, 8, 1, 1}};
        for (int[] c : calls) {
            Kit.due("once", -1, b.once(c[0], c[1], c[2], c[3], c[4]));
        }
        Kit.due("nothing was laid", 0, b.look(7) + b.look(12));
        b.terminal(8, 0, 0);
        Kit.due("no power", -1, b.once(0, 2, 0, 1, 1));
        b.terminal(0, 5, 1);
        b.frame(2);
        Kit.due("0 controls", 0, b.look(3));
        Kit.due("of itself", -1, b.once(0, 0, 0, 1, 1));
        Kit.due("of itself", -1, b.once(0, 3, 0, 1, 1));
        Kit.due("all of any", 0, b.once(0, 2, 0, 1, 1));
        Kit.due("it does not hear itself", 0, b.of(0, 14));
        Kit.due("others do", 31 << 11 | 33, b.of(1, 14));
        Kit.due("bus", -1, b.bus(-1, 0));
        Kit.due("bus", -1, b.bus(0, -1));
        Kit.due("tally", -1, b.tally(-1, 0));
        Kit.due("tally", -1, b.tally(0, -1));
        Kit.due("trail", -1, b.trail(-1));
        Kit.due("heard", -1, b.heard(-1, 0));
        Kit.due("heard", -1, b.heard(0, -1));
        Kit.due("log", -1, b.log(-1, 0));
    }

    private static void rings() {
        CommandBus b = new CommandBus();
        for (int k = 0; k < 40; k++) {
            b.word(-1, 1, 0, k);
            b.once(k & 1, 0, 2, 1, 1);
        }
        Kit.due("trail all", 120, b.look(12));
        Kit.due("trail 38", 18, b.trail(38));
        Kit.due("trail 39", 100, b.trail(39));
        Kit.due("trail 40", -1, b.trail(40));
        Kit.due("monitor 1", 39, b.heard(1, 2));
        Kit.due("monitor 61", 39 - 20, b.heard(61, 2));
        Kit.due("monitor 63", 2 << 11, b.heard(63, 2));
        Kit.due("monitor 63 on", 0, b.heard(63, 0));
        Kit.due("monitor 63 who", 2, b.heard(63, 1));
        Kit.due("monitor 64", -1, b.heard(64, 2));
    }
}
