/** Pasts for tests, each of fewer than 100 calls, so that 400 are left for what is asked behind. */
final class Scenes {
    static final String LINES = "send 1 1 2 every 1 at 0 on 0;get 2 1 3 every 2 any on 1;pass 3 1 4 1 2 every 2 any on 0;"
        + "all 2 1 every 4 at 1 on 1;mode 5 17 every 4 any on 0;hand 6 every 8 at 7 on 1;";

    private Scenes() {
    }

    /** Something of everything: nearly every answer is another one than that of a new object. */
    static void lively(CommandBus b) {
        busy(b);
        b.feed(0x68616e64, 0x3165, 0x20202020, 0x20202020, 0x20202020);
    }

    /** The same with nothing on the tape. */
    static void busy(CommandBus b) {
        Kit.table(b, LINES);
        Kit.events(b, "at 2 busy 1 1;at 3 busy 1 0;at 9 deaf 3 1;at 13 noise 0 4;at 14 babble 7 2;at 15 flag 2 1;");
        for (int k = 0; k < 6; k++) {
            b.word(-1, 1 + k, k, 1000 + k);
            b.word(k, 1, k, 2000 + k);
        }
        b.signal(2, 1, 8000, 125);
        b.terminal(4, 8, 124);
        b.terminal(5, 2, 1);
        b.terminal(5, 9, 555);
        b.terminal(0, 5, 1);
        b.set(0, 900);
        b.set(1, 2);
        b.frame(12);
        b.once(0, 3, 7, 0, 4);
        b.image(true);
        b.frame(1);
        b.noise(0, 30);
        b.noise(1, 7);
        b.noise(1, 900);
        b.word(-1, 6, 7, 77);
    }

    /** A controller that is silent for three frames; terminal 3 would wait two more. */
    static void silent(CommandBus b) {
        Kit.table(b, LINES);
        b.terminal(3, 5, 1);
        b.frame(2);
        b.terminal(8, 0, 0);
        b.frame(3);
    }

    /** As many frames in all as told, in calls of 60. */
    static void frames(CommandBus b, int n) {
        for (int left = n; left > 0; left -= 60) {
            b.frame(Math.min(60, left));
        }
    }

    /** The lines of a table that are due in every frame: as many as told, of one kind. */
    static String every(int n, String line) {
        return (line + "every1at0on0;").repeat(n);
    }
}
