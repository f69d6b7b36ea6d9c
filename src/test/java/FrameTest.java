/** Promises 7, 14, 23, 28: frames, their lines, tries again, wanted terminals, control and silence. */
public final class FrameTest {
    public static void main(String[] args) {
        numbers();
        passing();
        passGoesWrong();
        triesAgain();
        timeIsShort();
        handing();
        wanted();
        wantedNot();
        silence();
        waiting();
        events();
        longLog();
        Kit.finish();
    }

    private static void numbers() {
        CommandBus b = new CommandBus();
        Kit.due("0", -1, b.frame(0));
        Kit.due("61", -1, b.frame(61));
        Kit.due("-1", -1, b.frame(-1));
        for (int k = 0; k < 166; k++) {
            Kit.due("60", 0, b.frame(60));
        }
        Kit.due("frame", 9960, b.look(2));
        Kit.due("40 are too many", -1, b.frame(40));
        b.frame(19);
        Kit.due("20 in thought", 0, b.would(20, 0));
        b.frame(1);
        Kit.due("20 are too many in thought", -1, b.would(20, 0));
        Kit.due("20 are too many", -1, b.frame(20));
        Kit.due("19", 0, b.frame(19));
        Kit.due("frame", 9999, b.look(2));
        Kit.due("no more", -1, b.frame(1));
        Kit.due("no more", -1, b.would(1, 0));
    }

    private static void passing() {
        CommandBus b = new CommandBus();
        Kit.table(b, "pass 1 2 3 4 2 every 1 at 0 on 1;");
        b.word(1, 2, 0, 21);
        b.word(1, 2, 1, 22);
        Kit.due("pass", 1, b.frame(1));
        Kit.due("in", 22, b.at(3, 4, 1, 1));
        Kit.due("not got", 0, b.at(1, 2, 1, 2));
        Kit.due("time", 140, b.look(13));
        Kit.due("tally of one", 1, b.tally(1, 0));
        Kit.due("tally of the other", 1, b.tally(3, 0));
        int[] trail = {101, 13, 11, 18};
        for (int i = 0; i < 4; i++) {
            Kit.due("trail " + i, trail[i], b.trail(i));
        }
        int[] words = {3 << 11, 22, 21, 1 << 11, 1 << 11 | 1 << 10 | 2 << 5 | 2, 3 << 11 | 4 << 5 | 2};
        for (int i = 0; i < words.length; i++) {
            Kit.due("word " + i, words[i], b.heard(i, 2));
        }
        Kit.due("command of one", 1 << 11 | 1 << 10 | 2 << 5 | 2, b.of(1, 14));
        Kit.due("command of the other", 3 << 11 | 4 << 5 | 2, b.of(3, 14));
    }

    private static CommandBus passBus() {
        CommandBus b = new CommandBus();
        b.set(1, 0);
        Kit.table(b, "pass 1 2 3 4 2 every 1 at 0 on 0;");
        b.word(1, 2, 0, 21);
        return b;
    }

    private static void passOutcome(CommandBus b, int outcome, int time, int errors) {
        b.frame(1);
        Kit.due("outcome", outcome, b.log(0, 4));
        Kit.due("time", time, b.look(13));
        Kit.due("errors of U", errors, b.of(3, 12));
        Kit.due("tally T", 1, b.tally(1, outcome));
        Kit.due("tally U", 1, b.tally(3, outcome));
    }

    private static void passGoesWrong() {
        int order = 3 << 11 | 4 << 5 | 2;
        CommandBus b = passBus();
        b.noise(0, 1);
        passOutcome(b, 1, 40 + 8 + 60 + 14 + 4, 0);
        Kit.due("U knows nothing", 0, b.of(3, 14));
        b = passBus();
        b.noise(0, 2);
        passOutcome(b, 1, 58, 0);
        Kit.due("U heard its own", order, b.of(3, 14));
        Kit.due("T knows nothing", 0, b.of(1, 14));
        b = passBus();
        b.noise(0, 3);
        passOutcome(b, 2, 40 + 8 + 60 + 4, 1);
        Kit.due("U keeps error", 3 << 11 | 1 << 10, b.of(3, 13));
        b = passBus();
        b.terminal(1, 1, 1);
        b.noise(0, 3);
        passOutcome(b, 2, 72, 1);
        b = passBus();
        b.terminal(1, 1, 1);
        b.terminal(3, 8, 0);
        b.terminal(3, 3, 1);
        passOutcome(b, 4, 72, 0);
        Kit.due("U's status, no error", 3 << 11 | 4, b.of(3, 13));
        b = passBus();
        b.terminal(1, 8, 0);
        passOutcome(b, 3, 72, 0);
        b = passBus();
        b.terminal(3, 8, 0);
        passOutcome(b, 3, 140, 1);
        Kit.due("not taken", 0, b.at(3, 4, 0, 1));
        b = passBus();
        b.terminal(3, 1, 1);
        passOutcome(b, 4, 140, 0);
        b = passBus();
        b.noise(0, 6);
        passOutcome(b, 2, 140, 0);
        Kit.due("taken", 21, b.at(3, 4, 0, 1));
        b = passBus();
        b.once(1, 3, 3, 0, 4);
        passOutcome(b, 1, 126, 0);
        Kit.due("taken, shut or not", 21, b.at(3, 4, 0, 1));
        b = passBus();
        b.once(1, 3, 1, 0, 4);
        passOutcome(b, 1, 58, 0);
        b = passBus();
        b.terminal(3, 6, 1);
        passOutcome(b, 1, 126, 0);
        Kit.due("U heard nothing", 0, b.of(3, 14));
    }

    private static void triesAgain() {
        CommandBus b = new CommandBus();
        Kit.table(b, "send 1 1 1 every 1 at 0 on 0;");
        b.terminal(1, 6, 3);
        for (int r = 0; r <= 3; r++) {
            b.set(1, r);
            Kit.due("nobody", 0, b.frame(1));
            Kit.due("tries", r + 1, b.log(0, 2));
            Kit.due("bus", r % 2, b.log(0, 3));
            Kit.due("outcome", 1, b.log(0, 4));
            Kit.due("time", 58 * (r + 1), b.look(13));
        }
        b.terminal(1, 6, 1);
        Kit.due("the other", 1, b.frame(1));
        Kit.due("tries", 2, b.log(0, 2));
        Kit.due("bus", 1, b.log(0, 3));
        Kit.due("count 1", 4, b.count(0, 1));
        Kit.due("count 0", 1, b.count(0, 0));
        Kit.due("tally 1", 11, b.tally(1, 1));
        b.terminal(1, 1, 1);
        b.terminal(1, 6, 0);
        b.frame(1);
        Kit.due("busy is an answer", 1, b.log(0, 2));
        Kit.table(b, "all 1 1 every 1 at 0 on 0;");
        Kit.due("counts begin anew", 0, b.count(0, 0));
        b.terminal(2, 7, 1);
        Kit.due("all is held, tried again", 1, b.frame(1));
        Kit.due("tries", 2, b.log(0, 2));
        Kit.due("collision", 1, b.look(6));
        Kit.due("count", -1, b.count(0, 8));
        Kit.due("count", -1, b.count(0, -1));
        Kit.due("count", -1, b.count(1, 0));
        Kit.due("count", -1, b.count(-1, 0));
    }

    private static void timeIsShort() {
        CommandBus b = new CommandBus();
        Kit.table(b, "send 1 1 1 every 1 at 0 on 0;mode 2 1 every 1 at 0 on 0;");
        b.set(0, 124);
        Kit.due("both", 2, b.frame(1));
        b.set(0, 123);
        Kit.due("one", 1, b.frame(1));
        Kit.due("too much", 6, b.log(0, 4));
        Kit.due("no try", 0, b.log(0, 2));
        Kit.due("no bus", -1, b.log(0, 3));
        b.terminal(1, 0, 0);
        b.set(0, 58 + 72);
        b.frame(1);
        Kit.due("just time for it", 2, b.log(1, 2));
        Kit.due("not for the next", 6, b.log(0, 4));
        b.set(0, 58 + 71);
        b.frame(1);
        Kit.due("no time to try again", 1, b.log(1, 2));
        Kit.due("still without answer", 1, b.log(1, 4));
        Kit.due("but for the next", 0, b.log(0, 4));
        Kit.due("time", 58 + 52, b.look(13));
    }

    private static void handing() {
        CommandBus b = new CommandBus();
        Kit.table(b, "hand 2 every 2 at 0 on 0;hand 3 every 2 at 0 on 0;hand 8 every 2 at 1 on 0;send 2 1 1 every 1 at 0 on 0;");
        Kit.due("nobody takes", 1, b.frame(1));
        Kit.due("5", 5, b.log(2, 4));
        Kit.due("5 is one try", 1, b.log(2, 2));
        Kit.due("tally", 2, b.tally(2, 0));
        Kit.due("hand 8 of 8", 1, b.frame(1));
        Kit.due("7", 7, b.log(1, 4));
        b.terminal(2, 5, 1);
        b.terminal(3, 5, 1);
        Kit.due("both take", 3, b.frame(1));
        Kit.due("behind the frame", 0, b.log(0, 4));
        Kit.due("the latest", 3, b.look(3));
        Kit.due("one move", 1, b.look(14));
        Kit.due("status has it", 2 << 11, b.of(2, 13));
        b.noise(0, 2);
        Kit.due("back, at the second try", 2, b.frame(1));
        Kit.due("tries", 2, b.log(1, 2));
        Kit.due("8", 8, b.look(3));
        Kit.due("it laid its status", 8 << 11 | 2, b.heard(3, 2));
        Kit.due("tally of 8", 1, b.tally(8, 0));
        Kit.due("tally of 8", 1, b.tally(8, 2));
    }

    private static void wanted() {
        CommandBus b = new CommandBus();
        Kit.table(b, "pass 4 1 2 1 1 every 4 at 0 on 1;send 1 1 1 every 4 at 1 on 1;hand 5 every 4 at 2 on 1;get 6 1 1 every 4 at 3 on 1;");
        for (int t = 0; t < 8; t++) {
            b.terminal(t, 2, 1);
            b.terminal(t, 9, 100 + t);
        }
        b.terminal(2, 8, 0);
        b.frame(1);
        Kit.due("U refuses", 3, b.log(0, 4));
        Kit.due("both are asked", 120 + 144, b.look(13));
        Kit.due("the lesser first", 4, b.heard(0, 1));
        Kit.due("the lesser first", 2, b.heard(3, 1));
        Kit.due("on bus 0", 0, b.heard(0, 0));
        Kit.due("vector", 102, b.of(2, 16));
        Kit.due("vector", 104, b.of(4, 16));
        Kit.due("not in the log", 1, b.look(11));
        b.noise(1, 2);
        b.terminal(1, 1, 1);
        b.set(1, 0);
        b.frame(1);
        Kit.due("no answer, not wanted", 58, b.look(13));
        b.frame(1);
        Kit.due("hand is a mode", 105, b.of(5, 16));
        b.terminal(6, 6, 1);
        b.frame(1);
        Kit.due("deaf on bus 0: no retries", 72 + 38, b.look(13));
        Kit.due("none came", 0, b.of(6, 17));
        b.frame(1);
        Kit.due("nobody wants any more", 120, b.look(13));
        b.frame(1);
        Kit.due("busy, but wanted", 101, b.of(1, 16));
        Kit.due("how many", 1, b.of(1, 17));
    }

    private static void wantedNot() {
        CommandBus b = new CommandBus();
        Kit.table(b, "mode 1 2 every 4 at 0 on 0;mode 1 16 every 4 at 1 on 0;mode 1 18 every 4 at 0 on 0;send 1 1 1 every 4 at 2 on 0;");
        b.terminal(1, 2, 1);
        b.once(0, 3, 1, 0, 1);
        Kit.due("once wants nobody", 2, b.frame(1));
        Kit.due("2 and 18 neither", 124, b.look(13));
        b.frame(1);
        Kit.due("16 neither", 72, b.look(13));
        b.terminal(1, 2, 1);
        b.set(0, 72 + 71);
        b.frame(1);
        Kit.due("no time to ask", 72, b.look(13));
        b.set(0, 144);
        b.frame(1);
        Kit.due("it is forgotten", 0, b.look(13));
        b.frame(2);
        b.terminal(1, 2, 1);
        b.frame(1);
        Kit.due("just time to ask", 144, b.look(13));
        Kit.due("twice by the line, once asked", 3, b.of(1, 17));
    }

    private static void silence() {
        CommandBus b = new CommandBus();
        Kit.table(b, "send 1 1 1 every 1 at 0 on 0;");
        b.terminal(3, 5, 1);
        b.terminal(4, 5, 1);
        b.terminal(2, 5, 1);
        b.terminal(2, 6, 2);
        b.terminal(8, 0, 0);
        Kit.due("silent", 0, b.frame(4));
        Kit.due("silence", 4, b.look(5));
        Kit.due("no line was due", 0, b.line(0, 5));
        Kit.due("still 8", 8, b.look(3));
        b.terminal(8, 0, 1);
        b.frame(1);
        Kit.due("it talks again", 0, b.look(5));
        b.terminal(8, 0, 0);
        b.frame(4);
        b.terminal(3, 0, 0);
        b.frame(1);
        Kit.due("3 can't, 4 not yet", 8, b.look(3));
        Kit.due("silence", 5, b.look(5));
        b.frame(1);
        Kit.due("4", 4, b.look(3));
        Kit.due("silence", 0, b.look(5));
        Kit.due("time", 0, b.look(13));
        b.terminal(4, 0, 0);
        b.terminal(8, 0, 1);
        b.frame(9);
        Kit.due("not yet", 4, b.look(3));
        b.frame(1);
        Kit.due("first after ten", 8, b.look(3));
        Kit.due("moves", 2, b.look(14));
        b.frame(1);
        Kit.due("and lines go on", 2, b.line(0, 5));
    }

    private static void waiting() {
        CommandBus b = new CommandBus();
        for (int t = 0; t <= 8; t++) {
            Kit.due("waits " + t, -1, b.waits(t));
        }
        b.terminal(6, 5, 1);
        b.terminal(7, 5, 1);
        Kit.due("6", 8, b.waits(6));
        Kit.due("7 is behind", -1, b.waits(7));
        Kit.due("the controller", -1, b.waits(8));
        Kit.due("9", -1, b.waits(9));
        Kit.due("-1", -1, b.waits(-1));
        b.terminal(8, 0, 0);
        b.frame(3);
        Kit.due("6", 5, b.waits(6));
        b.terminal(6, 6, 1);
        Kit.due("deaf", -1, b.waits(6));
        Kit.due("7", 6, b.waits(7));
        b.frame(5);
        b.terminal(6, 6, 0);
        b.terminal(8, 0, 1);
        Kit.due("one at least, power or not", 1, b.waits(6));
        b.terminal(3, 5, 1);
        Kit.due("one at least", 1, b.waits(3));
        b.terminal(8, 0, 0);
        b.frame(1);
        Kit.due("3", 3, b.look(3));
        Kit.due("8 has no power", -1, b.waits(8));
        Kit.due("6", 8, b.waits(6));
        b.terminal(6, 5, 0);
        b.terminal(7, 5, 0);
        b.terminal(8, 0, 1);
        Kit.due("8", 10, b.waits(8));
    }

    private static void events() {
        CommandBus b = new CommandBus();
        Kit.table(b, "send 1 1 1 every 1 at 0 on 0;");
        b.set(1, 0);
        Kit.events(b, "at 1 power 1 0;at 2 power 1 1;at 2 busy 1 1;at 2 busy 1 0;at 3 deaf 1 1;at 4 deaf 1 2;at 5 babble 2 1;"
            + "at 6 power 2 0;at 7 noise 0 3;at 8 system 1 1;at 8 flag 1 1;at 8 deaf 1 0;at 9 accept 1 1;at 9 power 8 0;");
        int[] outcomes = {0, 1, 0, 1, 0, 1, 0, 2, 0};
        for (int f = 0; f < outcomes.length; f++) {
            b.frame(1);
            Kit.due("frame " + f, outcomes[f], b.log(0, 4));
        }
        Kit.due("told", 1 << 11 | 5, b.of(1, 13));
        b.frame(3);
        Kit.due("1 takes control", 1, b.look(3));
        CommandBus c = new CommandBus();
        Kit.events(c, "at 0 noise 1 5;at 0 noise 1 6;");
        for (int k = 0; k < 7; k++) {
            c.noise(1, 100);
        }
        c.frame(1);
        Kit.due("a ninth is nothing", 8, c.look(10));
        Kit.due("of frame 0 alone", 0, c.frame(20));
        Kit.due("still eight", 8, c.look(10));
    }

    private static void longLog() {
        CommandBus b = new CommandBus();
        Kit.table(b, "mode 1 1 every 1 at 0 on 0;mode 1 1 every 2 at 1 on 1;");
        b.frame(60);
        Kit.due("all", 90, b.look(11));
        Kit.due("latest", 59, b.log(0, 0));
        Kit.due("its line", 1, b.log(0, 1));
        Kit.due("oldest", 20, b.log(59, 0));
        Kit.due("none", -1, b.log(60, 0));
        Kit.due("what", -1, b.log(0, 5));
        Kit.due("due", 30, b.line(1, 5));
        Kit.due("good", 30, b.line(1, 6));
        Kit.due("latest", 0, b.line(1, 7));
    }
}
