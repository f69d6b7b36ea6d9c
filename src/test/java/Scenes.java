/** Pasts for tests, each of fewer than 100 calls, so that 400 are left for what is asked behind. */
final class Scenes {
    static final String LINES = "send 1 1 2 every 1 at 0 on 0;get 2 1 3 every 2 any on 1;pass 3 1 4 1 2 every 2 any on 0;"
        + "all 2 1 every 4 at 1 on 1;mode 5 17 every 4 any on 0;hand 6 every 8 at 7 on 1;";

    private Scenes() {
    }

    /** Something of everything: nearly every answer is another one than that of a new object. */
    static void lively(CommandBus b) {
        busy(b);
        b.feed(0x68616e64, 0x3165, 0x20202020, 0x20202020, 0x20202020);
    }

    /** The same with nothing on the tape. */
    static void busy(CommandBus b) {
        Kit.table(b, LINES);
        Kit.events(b, "at 2 busy 1 1;at 3 busy 1 0;at 9 deaf 3 1;at 13 noise 0 4;at 14 babble 7 2;at 15 flag 2 1;");
        for (int k = 0; k < 6; k++) {
            b.word(-1, 1 + k, k, 1000 + k);
            b.word(k, 1, k, 2000 + k);
        }
        b.signal(2, 1, 8000, 125);
        b.terminal(4, 8, 124);
        b.terminal(5, 2, 1);
        b.terminal(5, 9, 555);
        b.terminal(0, 5, 1);
        b.set(0, 900);
        b.set(1, 2);
        b.frame(12);
        b.once(0, 3, 7, 0, 4);
        b.image(true);
        b.frame(1);
        b.noise(0, 30);
        b.noise(1, 7);
        b.noise(1, 900);
        b.word(-1, 6, 7, 77);
    }

    /** Terminals of which nothing is as at first: all that could be lost is there to be lost. */
    static void worn(CommandBus b) {
        Kit.table(b, "send 7 1 2 every 4 at 3 on 1;hand 3 every 8 at 0 on 0;hand 8 every 8 at 1 on 0;"
            + "mode 5 19 every 1 at 0 on 0;get 6 2 2 every 2 any on 0;");
        Kit.events(b, "at 98 flag 2 0;at 99 busy 1 1;");
        for (int s = 1; s <= 6; s++) {
            b.word(-1, s, 0, 700 + s);
            b.word(-1, s, 7, 710 + s);
        }
        for (int t = 0; t < 8; t++) {
            b.signal(t, 2, 5000 + t, 10);
            b.word(t, 4, 3, 800 + t);
        }
        b.terminal(3, 5, 1);
        b.frame(2);
        b.terminal(3, 5, 0);
        for (int t = 0; t < 8; t++) {
            wear(b, t);
        }
        b.terminal(6, 5, 1);
        b.terminal(7, 5, 1);
        b.noise(0, 300);
        b.noise(1, 300);
        b.frame(1);
    }

    private static void wear(CommandBus b, int t) {
        b.once(0, 0, t, 1, 1);
        b.once(0, 1, t, 2, 3);
        b.once(0, 3, t, 0, 17);
        b.terminal(t, 9, 100 + t);
        b.terminal(t, 2, 1);
        b.once(0, 3, t, 0, 16);
        b.terminal(t, 2, 1);
        b.terminal(t, 3, 1);
        b.terminal(t, 4, 1);
        b.once(0, 3, t, 0, 6);
        b.once(t % 2, 3, t, 0, 4);
        b.once(t % 2, 3, t, 0, 9);
    }

    /** The same behind three silent frames, and the controller has power again. */
    static void wornAndSilent(CommandBus b) {
        worn(b);
        b.terminal(8, 0, 0);
        b.frame(3);
        b.terminal(8, 0, 1);
    }

    /** A controller that is silent for three frames; terminal 3 would wait two more. */
    static void silent(CommandBus b) {
        Kit.table(b, LINES);
        b.terminal(3, 5, 1);
        b.frame(2);
        b.terminal(8, 0, 0);
        b.frame(3);
    }

    /** As many frames in all as told, in calls of 60. */
    static void frames(CommandBus b, int n) {
        for (int left = n; left > 0; left -= 60) {
            b.frame(Math.min(60, left));
        }
    }

    /** The lines of a table that are due in every frame: as many as told, of one kind. */
    static String every(int n, String line) {
        return (line + "every1at0on0;").repeat(n);
    }
}
