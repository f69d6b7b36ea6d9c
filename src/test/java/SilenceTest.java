/** SILENCE of a number and 2, who takes control, and how long each would wait (promises 7, 28, 32). */
public final class SilenceTest {
    public static void main(String[] args) {
        numberAndTwo();
        firstIsEight();
        whoCan();
        theLeast();
        atLeast();
        powerAgain();
        allOfThisFrame();
        controlByEvents();
        counted();
        waitsStepByStep();
        waitsOneAtLeast();
        waitsNone();
        Kit.finish();
    }

    /** A controller without power, and terminal t ready to take control. */
    private static CommandBus silentFor(int t) {
        CommandBus b = new CommandBus();
        if (t < 8) {
            b.terminal(t, 5, 1);
            b.terminal(8, 0, 0);
        } else {
            b.terminal(3, 5, 1);
            Kit.table(b, "hand 3 every 8 at 0 on 0;");
            b.frame(1);
            Kit.due("3 controls", 3, b.look(3));
            b.terminal(3, 0, 0);
        }
        return b;
    }

    /** "the least TERMINAL .. for which SILENCE is its number and 2 at least, is CONTROLLER, SILENCE 0" */
    private static void numberAndTwo() {
        for (int t = 0; t < 8; t++) {
            CommandBus b = silentFor(t);
            for (int s = 1; s < t + 2; s++) {
                b.frame(1);
                Kit.due("silence of " + t, s, b.look(5));
                Kit.due("not yet", 8, b.look(3));
                Kit.due("no move", 0, b.look(14));
            }
            b.frame(1);
            Kit.due("controls", t, b.look(3));
            Kit.due("silence", 0, b.look(5));
            Kit.due("one move", 1, b.look(14));
            Kit.due("frame", t + 2, b.look(2));
            b.frame(3);
            Kit.due("goes on", t, b.look(3));
            Kit.due("no silence", 0, b.look(5));
        }
    }

    /** "(FIRST, with POWER, is 8: 10 at least)" */
    private static void firstIsEight() {
        CommandBus b = silentFor(8);
        b.frame(9);
        Kit.due("silence", 9, b.look(5));
        Kit.due("not yet", 3, b.look(3));
        b.frame(1);
        Kit.due("first", 8, b.look(3));
        Kit.due("silence", 0, b.look(5));
        Kit.due("moves", 2, b.look(14));
        CommandBus c = silentFor(8);
        c.terminal(8, 0, 0);
        c.frame(30);
        Kit.due("first without power", 3, c.look(3));
        Kit.due("silence", 30, c.look(5));
        CommandBus d = silentFor(8);
        d.terminal(7, 5, 1);
        d.frame(9);
        Kit.due("7 is ahead of it", 7, d.look(3));
    }

    /** "with POWER, ACCEPTS, DEAF nowhere" */
    private static void whoCan() {
        for (int t = 0; t < 8; t++) {
            for (int deaf = 0; deaf < 4; deaf++) {
                CommandBus b = silentFor(t);
                b.terminal(t, 6, deaf);
                b.frame(20);
                Kit.due("deaf " + deaf, deaf == 0 ? t : 8, b.look(3));
            }
            CommandBus b = silentFor(t);
            b.terminal(t, 0, 0);
            b.frame(20);
            Kit.due("no power", 8, b.look(3));
            b = silentFor(t);
            b.terminal(t, 5, 0);
            b.frame(20);
            Kit.due("accepts not", 8, b.look(3));
            Kit.due("silence goes on", 20, b.look(5));
            b = silentFor(t);
            b.terminal(8, 0, 1);
            b.once(0, 3, t, 0, 4);
            b.once(1, 3, t, 0, 4);
            b.terminal(8, 0, 0);
            Kit.due("shut on both", 3, b.of(t, 10));
            b.terminal(t, 1, 1);
            b.terminal(t, 7, 3);
            b.terminal(t, 8, 0);
            b.frame(t + 2);
            Kit.due("all else does not matter", t, b.look(3));
        }
    }

    /** "the least TERMINAL" of several. */
    private static void theLeast() {
        for (int t = 0; t < 7; t++) {
            CommandBus b = silentFor(t);
            for (int u = t + 1; u < 8; u++) {
                b.terminal(u, 5, 1);
            }
            b.frame(t + 2);
            Kit.due("the least", t, b.look(3));
            b = silentFor(t);
            b.frame(t + 1);
            b.terminal(t + 1, 5, 1);
            b.terminal(t, 0, 0);
            b.frame(1);
            Kit.due("the next not yet", 8, b.look(3));
            b.frame(1);
            Kit.due("the next", t + 1, b.look(3));
        }
        CommandBus b = new CommandBus();
        b.terminal(8, 0, 0);
        b.frame(15);
        b.terminal(2, 5, 1);
        b.terminal(5, 5, 1);
        b.frame(1);
        Kit.due("both could, the least does", 2, b.look(3));
    }

    /** "at least": one that comes late takes control in the next FRAME. */
    private static void atLeast() {
        for (int silence = 0; silence <= 12; silence++) {
            CommandBus b = new CommandBus();
            b.terminal(8, 0, 0);
            if (silence > 0) {
                b.frame(silence);
            }
            b.terminal(6, 5, 1);
            b.frame(1);
            Kit.due("silence was " + silence, silence + 1 >= 8 ? 6 : 8, b.look(3));
            Kit.due("silence", silence + 1 >= 8 ? 0 : silence + 1, b.look(5));
        }
    }

    /** "Else SILENCE is 0" */
    private static void powerAgain() {
        CommandBus b = silentFor(4);
        b.frame(5);
        b.terminal(8, 0, 1);
        Kit.due("till the next frame", 5, b.look(5));
        b.frame(1);
        Kit.due("none", 0, b.look(5));
        b.terminal(8, 0, 0);
        b.frame(5);
        Kit.due("from the beginning", 8, b.look(3));
        b.frame(1);
        Kit.due("six", 4, b.look(3));
        CommandBus c = silentFor(4);
        c.frame(5);
        c.terminal(8, 0, 1);
        c.terminal(8, 0, 0);
        c.frame(1);
        Kit.due("no frame between: silence goes on", 4, c.look(3));
    }

    /** "that is all of this FRAME but (a) (FRAME one more; time 0; no LINE is due)" */
    private static void allOfThisFrame() {
        CommandBus b = new CommandBus();
        Kit.table(b, "mode 5 1 every 1 at 0 on 0;");
        b.signal(5, 1, 1000, 1000);
        b.terminal(0, 5, 1);
        b.frame(1);
        Kit.due("time", 52, b.look(13));
        b.terminal(8, 0, 0);
        for (int k = 0; k < 2; k++) {
            Kit.due("none goes", 0, b.frame(1));
            Kit.due("frame", 2 + k, b.look(2));
            Kit.due("time", 0, b.look(13));
            Kit.due("due", 1, b.line(0, 5));
            Kit.due("log", 1, b.look(11));
            Kit.due("tries", 1, b.bus(0, 3));
            Kit.due("(a) goes on", (k + 2) * 8, b.at(5, 1, 2, 0));
        }
        Kit.due("controls", 0, b.look(3));
        Kit.due("the next frame goes", 1, b.frame(1));
        Kit.due("by who controls", 0, b.heard(1, 1));
    }

    /** THE EVENTS come first, so they tell who has POWER, and who can take control. */
    private static void controlByEvents() {
        CommandBus b = new CommandBus();
        Kit.table(b, "mode 5 1 every 1 at 0 on 0;");
        Kit.events(b, "at 1 power 8 0;at 2 accept 0 1;at 4 power 0 0;at 6 power 0 1;");
        Kit.due("frame 0", 1, b.frame(1));
        Kit.due("frame 1 is silent", 0, b.frame(1));
        Kit.due("silence", 1, b.look(5));
        b.frame(1);
        Kit.due("0 accepts in frame 2, and takes control in it", 0, b.look(3));
        Kit.due("frame 3 goes", 1, b.frame(1));
        Kit.due("frame 4 does not", 0, b.frame(1));
        Kit.due("frame 5 neither", 0, b.frame(1));
        Kit.due("silence", 2, b.look(5));
        Kit.due("frame 6 goes", 1, b.frame(1));
        Kit.due("silence", 0, b.look(5));
    }

    /** "14 how often CONTROL went to another one": by hand, or by silence; "of several the latest" is one. */
    private static void counted() {
        CommandBus b = new CommandBus();
        b.terminal(1, 5, 1);
        b.terminal(2, 5, 1);
        b.terminal(3, 5, 1);
        Kit.table(b, "hand 2 every 1 at 0 on 0;hand 1 every 1 at 0 on 0;");
        b.frame(1);
        Kit.due("the latest", 1, b.look(3));
        Kit.due("one", 1, b.look(14));
        b.frame(1);
        Kit.due("1 hands to 2, to itself not", 2, b.look(3));
        Kit.due("two", 2, b.look(14));
        b.terminal(2, 0, 0);
        b.frame(3);
        Kit.due("1 by silence", 1, b.look(3));
        Kit.due("three", 3, b.look(14));
    }

    /** "How long .. (FRAMES of SILENCE) till it takes control, as all is now": as it then is. */
    private static void waitsStepByStep() {
        for (int t = 0; t < 9; t++) {
            CommandBus b = silentFor(t);
            int leader = b.look(3);
            for (int left = t + 2; left >= 1; left--) {
                Kit.due("waits of " + t, left, b.waits(t));
                Kit.due("the controller", -1, b.waits(leader));
                b.frame(1);
            }
            Kit.due("controls now", t, b.look(3));
            Kit.due("so waits no more", -1, b.waits(t));
        }
        CommandBus b = new CommandBus();
        b.terminal(4, 5, 1);
        b.frame(5);
        Kit.due("has the controller power: as if it had none from now on", 6, b.waits(4));
    }

    /** "1 at least (SILENCE as it is ..)" */
    private static void waitsOneAtLeast() {
        for (int silence = 0; silence <= 12; silence++) {
            CommandBus b = new CommandBus();
            b.terminal(8, 0, 0);
            if (silence > 0) {
                b.frame(silence);
            }
            b.terminal(6, 5, 1);
            int due = silence >= 7 ? 1 : 8 - silence;
            Kit.due("silence " + silence, due, b.waits(6));
            b.terminal(8, 0, 1);
            Kit.due("silence as it is, power or not", due, b.waits(6));
            b.terminal(8, 0, 0);
            b.frame(due);
            Kit.due("and so it came", 6, b.look(3));
        }
    }

    /** "NONE: it is the CONTROLLER, it would not, or somebody goes ahead of it, or there is none such." */
    private static void waitsNone() {
        CommandBus b = new CommandBus();
        for (int t = -1; t <= 9; t++) {
            Kit.due("nobody accepts", -1, b.waits(t));
        }
        b.terminal(5, 5, 1);
        b.terminal(6, 5, 1);
        Kit.due("5", 7, b.waits(5));
        Kit.due("5 goes ahead of 6", -1, b.waits(6));
        b.terminal(5, 6, 2);
        Kit.due("deaf somewhere", -1, b.waits(5));
        Kit.due("nobody ahead", 8, b.waits(6));
        b.terminal(6, 0, 0);
        Kit.due("no power", -1, b.waits(6));
        b.terminal(5, 6, 0);
        b.terminal(8, 0, 0);
        b.frame(7);
        Kit.due("5 controls", 5, b.look(3));
        Kit.due("the controller, with power", -1, b.waits(5));
        Kit.due("first without power", -1, b.waits(8));
        b.terminal(8, 0, 1);
        Kit.due("first", 10, b.waits(8));
        b.terminal(5, 0, 0);
        Kit.due("the controller, without power", -1, b.waits(5));
        b.frame(4);
        Kit.due("first", 6, b.waits(8));
        b.terminal(6, 0, 1);
        Kit.due("6 goes ahead", -1, b.waits(8));
        Kit.due("6", 4, b.waits(6));
        Kit.due("none such", -1, b.waits(9));
        Kit.due("none such", -1, b.waits(-1));
        for (int t = 0; t < 7; t++) {
            for (int u = t + 1; u < 8; u++) {
                CommandBus c = new CommandBus();
                c.terminal(t, 5, 1);
                c.terminal(u, 5, 1);
                Kit.due(t + " with " + u, t + 2, c.waits(t));
                Kit.due(t + " goes ahead of " + u, -1, c.waits(u));
            }
        }
    }
}
