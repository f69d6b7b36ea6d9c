import java.util.function.Consumer;

/** WOULD and THE IMAGE: never taken, gone back to more than once, and what neither of them touches (30, 31). */
public final class ImageTest {
    private static final String OTHER = "hand 3 every 1 any on 1;all 1 8 every 8 any on 0;";

    public static void main(String[] args) {
        neverTaken();
        backAgain();
        moreThanOnce();
        takenAnew();
        tapeAndFaultStay();
        signalsToo();
        fullTableToo();
        imageOfNothing();
        wouldIsAsFrames();
        wouldOfEachOutcome();
        nothingOfItStays();
        wouldLeavesTheImage();
        askingChangesNothing();
        Kit.finish();
    }

    /** "false if there is none" */
    private static void neverTaken() {
        CommandBus b = new CommandBus();
        Kit.due("none", false, b.image(false));
        Kit.due("still none", false, b.image(false));
        new Twins(Scenes::silent).untouchedBy("going back to none", c -> Kit.due("none", false, c.image(false)));
        b.frame(3);
        b.would(3, 0);
        Kit.due("none by thought", false, b.image(false));
        Kit.due("frame", 3, b.look(2));
        Kit.due("taken", true, b.image(true));
        Kit.due("there is one", true, b.image(false));
    }

    /** Everything that can be told, and all that comes by it. */
    private static void upset(CommandBus b) {
        b.set(0, 5000);
        b.set(1, 3);
        for (int t = 0; t < 8; t++) {
            b.terminal(t, t % 6, 1);
            b.terminal(t, 6 + t % 2, 1);
            b.word(t, 1 + t % 6, t, 999);
        }
        b.terminal(2, 8, 2);
        b.terminal(2, 9, 2);
        b.word(-1, 3, 3, 3);
        b.signal(6, 2, 7, 7);
        b.signal(2, 1, 0, 0);
        b.noise(0, 1);
        b.noise(1, 500);
        Kit.table(b, OTHER);
        Kit.events(b, "at 16 power 8 0;at 17 noise 1 3;");
        b.once(1, 3, 5, 0, 4);
        b.once(1, 3, 5, 0, 6);
        b.once(1, 3, 5, 0, 17);
        b.once(0, 2, 5, 2, 8);
        b.once(1, 1, 2, 1, 8);
        b.frame(9);
    }

    private static Consumer<CommandBus> andImage(Consumer<CommandBus> scene) {
        return scene.andThen(b -> b.image(true));
    }

    /** "all that is and was told but the TAPE and fault(), as it was when it was taken" */
    private static void backAgain() {
        Twins busy = new Twins(andImage(Scenes::busy));
        busy.touchedBy("all that upset() does", ImageTest::upset);
        busy.untouchedBy("all that, and back", b -> {
            upset(b);
            Kit.due("back", true, b.image(false));
        });
        busy.untouchedBy("back at once", b -> Kit.due("back", true, b.image(false)));
        Twins silent = new Twins(andImage(Scenes::silent));
        silent.untouchedBy("all that in silence, and back", b -> {
            upset(b);
            Kit.due("back", true, b.image(false));
        });
    }

    /** "gone back to it may be more than once" */
    private static void moreThanOnce() {
        Twins busy = new Twins(andImage(Scenes::busy));
        busy.untouchedBy("back three times", b -> {
            upset(b);
            Kit.due("back", true, b.image(false));
            b.frame(5);
            Kit.due("back", true, b.image(false));
            Kit.due("and again at once", true, b.image(false));
            upset(b);
            Kit.due("back", true, b.image(false));
        });
    }

    /** The latest that was taken is THE IMAGE. */
    private static void takenAnew() {
        CommandBus b = new CommandBus();
        b.image(true);
        b.frame(1);
        b.image(true);
        b.frame(1);
        b.image(false);
        Kit.due("the second", 1, b.look(2));
        b.frame(4);
        b.image(false);
        Kit.due("the second again", 1, b.look(2));
        b.image(true);
        b.frame(1);
        b.image(false);
        Kit.due("taken behind going back", 1, b.look(2));
    }

    /** "but the TAPE and fault()": neither is in it, so neither comes or goes with it. */
    private static void tapeAndFaultStay() {
        CommandBus b = new CommandBus();
        Kit.table(b, "hand 9");
        Kit.put(b, "hand 1 every 1 at 0 on 0;");
        b.image(true);
        Kit.due("one line", 1, b.table());
        Kit.due("no fault", 0, b.fault(0));
        b.image(false);
        Kit.due("the table as it was", 0, b.look(4));
        Kit.due("the fault as it is", 0, b.fault(0));
        Kit.due("its place as it is", -1, b.fault(1));
        Kit.due("the tape is empty", false, b.end(1));
        Kit.put(b, "hand 2 every 1 at 0 on 0;");
        b.image(false);
        Kit.due("the tape is as long as it was", true, !b.end(26) && b.end(25));
        Kit.due("and is read", 1, b.table());
        Kit.table(b, " @");
        b.image(false);
        Kit.due("the fault as it is", 1, b.fault(0));
        Kit.due("its place as it is", 1, b.fault(1));
    }

    /** 24 LINES, 24 EVENTS, all counts of each. */
    private static void fullTableToo() {
        Twins full = new Twins(b -> {
            Kit.table(b, "send7 6 8every2any on1;".repeat(3) + "hand1every1at0on0;".repeat(21));
            Kit.events(b, "at 3 busy 1 1;".repeat(24));
            b.set(0, 1400);
            b.frame(5);
            b.image(true);
        });
        full.touchedBy("other lines", b -> Kit.table(b, "mode 3 9 every 2 at 1 on 1;".repeat(18)));
        full.untouchedBy("other lines, and back", b -> {
            b.frame(3);
            Kit.table(b, "mode3 9every2at1on1;".repeat(24));
            Kit.events(b, "at15babble3 3;".repeat(24));
            b.frame(9);
            b.image(false);
        });
        full.untouchedBy("would", b -> b.would(20, 1));
    }

    /** SIGNALS were told: gone back, there are those of the image alone, and their SMOOTH. */
    private static void signalsToo() {
        for (int t = 0; t < 8; t++) {
            for (int s = 1; s <= 6; s++) {
                CommandBus b = new CommandBus();
                b.signal(t, s, 8000, 1000);
                b.frame(1);
                b.once(0, 1, t, s, 2);
                b.image(true);
                b.signal(t, s, -4000, -1000);
                int other = (t + 1) % 8;
                b.word(other, s, 2, 55);
                b.image(false);
                b.image(true);
                b.word(other, s, 2, 66);
                b.signal(other, s, 1000, 0);
                b.frame(1);
                Kit.due("drawn", 8, b.at(other, s, 2, 0));
                Kit.due("got", 0, b.once(0, 1, t, s, 2));
                b.image(false);
                Kit.due("smooth as it was", 2000, b.smooth(t, s, 1));
                b.word(other, s, 2, 77);
                b.frame(1);
                Kit.due("base and slope as they were", 72, b.at(t, s, 2, 0));
                Kit.due("none told of another", 77, b.at(other, s, 2, 0));
                Kit.due("got", 0, b.once(0, 1, other, s, 2));
                Kit.due("no smooth without one", 0, b.smooth(other, s, 0));
            }
        }
    }

    /** An image of a new object is one, too. */
    private static void imageOfNothing() {
        Twins fresh = new Twins(b -> b.image(true));
        fresh.untouchedBy("a past and back to the beginning", b -> {
            Scenes.silent(b);
            upset(b);
            b.image(false);
        });
    }

    /** "WOULD of n (1 .. 20) FRAMES: what 0 LINES due with OUTCOME 0, 1 with others, 2 the CONTROLLER then, 3 the most time" */
    private static void wouldIsAsFrames() {
        for (int scene = 0; scene < 3; scene++) {
            for (int n = 1; n <= 20; n++) {
                CommandBus b = made(scene);
                int lines = b.look(11);
                int most = 0;
                int good = 0;
                for (int k = 0; k < n; k++) {
                    good += b.frame(1);
                    most = Math.max(most, b.look(13));
                }
                CommandBus c = made(scene);
                Kit.due("good in " + n, good, c.would(n, 0));
                Kit.due("others in " + n, b.look(11) - lines - good, c.would(n, 1));
                Kit.due("the controller then", b.look(3), c.would(n, 2));
                Kit.due("the most time", most, c.would(n, 3));
                Kit.due("as frames at once", good, c.frame(n));
            }
        }
    }

    /** "0 LINES due with OUTCOME 0, 1 with others": each of 1 to 7 is one of the others. */
    private static void wouldOfEachOutcome() {
        thought("mode 1 1", b -> { }, 0);
        thought("mode 1 1", b -> b.terminal(1, 0, 0), 1);
        thought("mode 1 1", b -> b.noise(0, 2), 2);
        thought("mode 1 3", b -> { }, 3);
        thought("mode 1 1", b -> b.terminal(1, 1, 1), 4);
        thought("hand 1", b -> { }, 5);
        thought("pass 1 1 2 1 8", b -> b.set(0, 200), 6);
        thought("hand 8", b -> { }, 7);
    }

    private static void thought(String line, Consumer<CommandBus> told, int outcome) {
        CommandBus b = new CommandBus();
        b.set(1, 0);
        told.accept(b);
        Kit.table(b, line + " every 2 at 0 on 0;");
        Kit.due("good of " + line, outcome == 0 ? 1 : 0, b.would(2, 0));
        Kit.due("others of " + line, outcome == 0 ? 0 : 1, b.would(2, 1));
        b.frame(1);
        Kit.due("outcome of " + line, outcome, b.line(0, 7));
        Kit.due("none is due", 0, b.would(1, 0) + b.would(1, 1));
    }

    private static CommandBus made(int scene) {
        CommandBus b = new CommandBus();
        if (scene == 0) {
            Scenes.busy(b);
        } else if (scene == 1) {
            Scenes.silent(b);
        }
        return b;
    }

    /** "IN THOUGHT (nothing of it stays)" */
    private static void nothingOfItStays() {
        Twins busy = new Twins(Scenes::lively);
        Twins silent = new Twins(Scenes::silent);
        for (int what = 0; what < 4; what++) {
            int asked = what;
            for (int n : new int[] {1, 2, 19, 20}) {
                busy.untouchedBy("would " + n + " " + what, b -> b.would(n, asked));
                silent.untouchedBy("would " + n + " " + what, b -> b.would(n, asked));
            }
        }
        Twins upset = new Twins(b -> {
            Scenes.busy(b);
            upset(b);
        });
        upset.untouchedBy("would when all is upset", b -> b.would(20, 0));
    }

    private static void wouldLeavesTheImage() {
        CommandBus b = new CommandBus();
        b.frame(2);
        b.image(true);
        b.frame(3);
        b.would(20, 0);
        Kit.due("goes on", 5, b.look(2));
        b.image(false);
        Kit.due("as it was taken", 2, b.look(2));
        b.would(20, 3);
        b.image(false);
        Kit.due("again", 2, b.look(2));
    }

    /** Nothing that is only asked leaves anything behind. */
    private static void askingChangesNothing() {
        Twins lively = new Twins(Scenes::lively);
        lively.untouchedBy("asking", b -> {
            for (int k = 0; k < 3; k++) {
                b.event(k, k);
                b.count(k, k);
                b.fault(k);
                b.line(k, k);
                b.load(k, k);
                b.fits(k);
                b.spread(k, k);
                b.of(k, k);
                b.at(k, k + 1, k, k);
                b.smooth(k, k, k);
                b.log(k, k);
                b.trail(k);
                b.heard(k, k);
                b.bus(k, k);
                b.tally(k, k);
                b.waits(k);
                b.parity(k);
                b.look(k);
            }
        });
    }
}
