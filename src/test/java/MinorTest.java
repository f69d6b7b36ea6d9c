import java.util.function.Consumer;

/** A TIME that just is, or just is not, above MINOR; RETRIES; FRAME up to 9999 (promises 2, 7, 16 to 18, 30). */
public final class MinorTest {
    private static final String FILLER = "all 6 8 every 1 at 0 on 1;";
    private static final int FILLED = 184;

    public static void main(String[] args) {
        timesOfLines();
        sevenAheadOfSix();
        againWhileThereIsTime();
        howOftenAgain();
        whatIsTriedAgain();
        wantedWhileThereIsTime();
        wantedByNumber();
        timeIsWhatTriesTook();
        lastFrame();
        lastFrameInThought();
        refusedAtTheEnd();
        eventsAtTheEnd();
        Kit.finish();
    }

    /** "TIME of a LINE: send 52 and 20 N; get 52 and 20 N; pass 100 and 20 N; all 24 and 20 N; mode, hand 52, CODES 16 to 19 72" */
    private static void timesOfLines() {
        for (int n = 1; n <= 8; n++) {
            justFits("send 1 1 " + n, 52 + 20 * n);
            justFits("get 1 1 " + n, 52 + 20 * n);
            justFits("pass 1 1 2 1 " + n, 100 + 20 * n);
            justFits("all 1 " + n, 24 + 20 * n);
        }
        for (int c = 1; c < 32; c++) {
            justFits("mode 1 " + c, c >= 16 && c <= 19 ? 72 : 52);
        }
        justFits("hand 1", 52);
    }

    /** "Would the time of this FRAME so far and its TIME be above MINOR: OUTCOME 6." */
    private static void justFits(String line, int time) {
        CommandBus b = new CommandBus();
        Kit.table(b, FILLER + line + " every 1 at 0 on 0;");
        Kit.due("TIME of " + line, time, b.line(1, 4));
        Kit.due("LOAD", FILLED + time, b.load(3, 0));
        b.set(0, FILLED + time);
        Kit.due("not above", 0, b.load(3, 1));
        Kit.due("no frame is", -1, b.fits(2));
        Kit.due("nothing left", 0, b.fits(3));
        b.frame(1);
        Kit.due("it goes", 1, b.log(0, 2));
        Kit.due("and takes its TIME", FILLED + time, b.look(13));
        Kit.due("all of it", time, b.bus(0, 4));
        b.set(0, FILLED + time - 1);
        Kit.due("above", 1, b.load(3, 1));
        Kit.due("the first", 0, b.fits(2));
        Kit.due("less than nothing left", -1, b.fits(3));
        b.frame(1);
        Kit.due("too much", 6, b.log(0, 4));
        Kit.due("no try", 0, b.log(0, 2));
        Kit.due("no bus", -1, b.log(0, 3));
        Kit.due("counted", 1, b.count(1, 6));
        Kit.due("due all the same", 2, b.line(1, 5));
        Kit.due("the latest", 6, b.line(1, 7));
        Kit.due("nothing laid", time, b.bus(0, 4));
        Kit.due("no time", FILLED, b.look(13));
    }

    /** "is what it is to, from (any) the CONTROLLER: OUTCOME 7" comes ahead of OUTCOME 6. */
    private static void sevenAheadOfSix() {
        String[] own = {"send 5 1 8", "get 5 1 8", "pass 5 1 2 1 8", "pass 2 1 5 1 8", "mode 5 1", "hand 5"};
        for (String line : own) {
            CommandBus b = new CommandBus();
            b.terminal(5, 5, 1);
            Kit.table(b, "hand 5 every 1 at 0 on 0;");
            b.frame(1);
            Kit.table(b, FILLER + line + " every 1 at 0 on 0;all 1 1 every 1 at 0 on 0;");
            b.frame(1);
            Kit.due("seven of " + line, 7, b.log(1, 4));
            Kit.due("it takes nothing", FILLED + 44, b.look(13));
            b.set(0, FILLED);
            b.frame(1);
            Kit.due("seven of " + line, 7, b.log(1, 4));
            Kit.due("no try", 0, b.log(1, 2));
            Kit.due("no bus", -1, b.log(1, 3));
            Kit.due("six of the next", 6, b.log(0, 4));
            Kit.due("sevens", 2, b.count(1, 7));
        }
    }

    /** "again on the other BUS .., as often as RETRIES, each if its TIME is not too much then" */
    private static void againWhileThereIsTime() {
        for (int retries = 0; retries <= 3; retries++) {
            for (int minor = 100; minor <= 330; minor++) {
                CommandBus b = new CommandBus();
                b.terminal(1, 0, 0);
                b.set(0, minor);
                b.set(1, retries);
                Kit.table(b, "send 1 1 1 every 1 at 0 on 1;");
                b.frame(1);
                int tries = 0;
                while (tries <= retries && 58 * tries + 72 <= minor) {
                    tries++;
                }
                Kit.due("tries in " + minor, tries, b.log(0, 2));
                Kit.due("bus", tries % 2, b.log(0, 3));
                Kit.due("without answer", 1, b.log(0, 4));
                Kit.due("time", 58 * tries, b.look(13));
            }
        }
    }

    /** RETRIES 0 .. 3 (1 at first); each try on the other BUS than the one ahead. */
    private static void howOftenAgain() {
        CommandBus b = new CommandBus();
        b.terminal(1, 0, 0);
        Kit.table(b, "mode 1 1 every 1 at 0 on 0;");
        b.frame(1);
        Kit.due("at first", 2, b.log(0, 2));
        for (int r = 0; r <= 3; r++) {
            b.set(1, r);
            int on0 = b.bus(0, 3);
            int on1 = b.bus(1, 3);
            b.frame(1);
            Kit.due("tries", r + 1, b.log(0, 2));
            Kit.due("on bus 0", on0 + (r + 2) / 2, b.bus(0, 3));
            Kit.due("on bus 1", on1 + (r + 1) / 2, b.bus(1, 3));
        }
        for (int bad = 0; bad <= 4; bad++) {
            CommandBus c = new CommandBus();
            c.set(1, 3);
            Kit.table(c, "mode 1 1 every 1 at 0 on 0;");
            for (int k = 0; k < bad; k++) {
                c.noise(k % 2, k / 2 + 1);
            }
            c.frame(1);
            Kit.due("tries", Math.min(4, bad + 1), c.log(0, 2));
            Kit.due("outcome", bad < 4 ? 0 : 1, c.log(0, 4));
            Kit.due("the bus of the latest", Math.min(3, bad) % 2, c.log(0, 3));
            Kit.due("time", 38 * bad + (bad < 4 ? 52 : 0), c.look(13));
        }
    }

    /** "OUTCOME 1, 2: again": 0, 3, 4 and 5 are not. */
    private static void whatIsTriedAgain() {
        String[] lines = {"send 1 1 1", "get 1 1 1", "pass 1 1 2 1 1", "mode 1 1", "hand 1"};
        for (String line : lines) {
            boolean hand = line.startsWith("hand");
            boolean mode = line.startsWith("mode");
            tried(line, b -> { }, hand ? 5 : 0, 1);
            tried(line, b -> b.terminal(1, 0, 0), 1, 4);
            tried(line, b -> b.terminal(1, 1, 1), 4, 1);
            tried(line, b -> b.terminal(1, 8, 0), hand ? 5 : mode ? 0 : 3, 1);
            tried(line, b -> b.terminal(1, 6, 3), 1, 4);
            tried(line, b -> b.terminal(1, 6, 1), hand ? 5 : 0, 2);
            tried(line, b -> b.terminal(7, 7, 3), 1, 4);
            tried(line, b -> b.noise(0, line.startsWith("send") || line.startsWith("pass") ? 3 : 2), hand ? 5 : 0, 2);
        }
        tried("mode 1 3", b -> { }, 3, 1);
        tried("all 1 1", b -> b.terminal(7, 7, 3), 2, 4);
        tried("all 1 1", b -> b.terminal(7, 7, 1), 0, 2);
        tried("all 1 1", b -> b.noise(0, 1), 0, 1);
        tried("all 1 1", b -> b.noise(0, 2), 0, 1);
    }

    private static void tried(String line, Consumer<CommandBus> told, int outcome, int tries) {
        CommandBus b = new CommandBus();
        b.set(1, 3);
        Kit.table(b, line + " every 1 at 0 on 0;");
        told.accept(b);
        b.frame(1);
        Kit.due("outcome of " + line, outcome, b.log(0, 4));
        Kit.due("tries of " + line, tries, b.log(0, 2));
        Kit.due("bus of " + line, 1 - tries % 2, b.log(0, 3));
    }

    /** "a TRY of MODE 16 on BUS 0 (TIME 72 must not be too much; no RETRIES; its time counts, not in THE LOG)" */
    private static void wantedWhileThereIsTime() {
        for (int minor = 122; minor <= 126; minor++) {
            CommandBus b = new CommandBus();
            b.terminal(1, 2, 1);
            b.terminal(1, 9, 77);
            b.set(0, minor);
            Kit.table(b, "mode 1 1 every 1 at 0 on 1;");
            b.frame(1);
            boolean asked = minor >= 124;
            Kit.due("time of " + minor, asked ? 124 : 52, b.look(13));
            Kit.due("vectors", asked ? 1 : 0, b.of(1, 17));
            Kit.due("vector", asked ? 77 : 0, b.of(1, 16));
            Kit.due("service", asked ? 0 : 1, b.of(1, 2));
            Kit.due("on bus 0", asked ? 1 : 0, b.bus(0, 3));
            Kit.due("one line in the log", 1, b.look(11));
        }
        for (int retries = 0; retries <= 3; retries++) {
            CommandBus b = new CommandBus();
            b.terminal(1, 2, 1);
            b.terminal(1, 6, 1);
            b.set(1, retries);
            Kit.table(b, "mode 1 1 every 1 at 0 on 1;");
            b.frame(1);
            Kit.due("no retries", 1, b.bus(0, 3));
            Kit.due("time", 52 + 38, b.look(13));
        }
    }

    /** "behind all LINES, by number, who is wanted", each if there is time. */
    private static void wantedByNumber() {
        int[] minors = {175, 176, 247, 248, 319, 320};
        for (int minor : minors) {
            CommandBus b = new CommandBus();
            for (int t : new int[] {6, 2, 4}) {
                b.terminal(t, 2, 1);
                b.terminal(t, 9, 100 + t);
            }
            Kit.table(b, "mode 6 1 every 1 at 0 on 1;mode 4 1 every 1 at 0 on 1;mode 2 5 every 1 at 0 on 1;");
            b.set(0, minor + 52);
            b.frame(1);
            int asked = (minor + 52 - 156) / 72;
            Kit.due("2 in " + minor, asked >= 1 ? 102 : 0, b.of(2, 16));
            Kit.due("4 in " + minor, asked >= 2 ? 104 : 0, b.of(4, 16));
            Kit.due("6 in " + minor, asked >= 3 ? 106 : 0, b.of(6, 16));
            Kit.due("time", 156 + 72 * asked, b.look(13));
        }
        CommandBus b = new CommandBus();
        b.terminal(2, 2, 1);
        b.terminal(4, 2, 1);
        b.terminal(2, 6, 1);
        Kit.table(b, "mode 2 1 every 1 at 0 on 1;mode 4 1 every 1 at 0 on 1;");
        b.set(0, 104 + 38 + 72);
        b.frame(1);
        Kit.due("what went wrong took 38", 1, b.of(4, 17));
        Kit.due("time", 104 + 38 + 72, b.look(13));
        b.terminal(4, 2, 1);
        b.set(0, 104 + 38 + 71);
        b.frame(1);
        Kit.due("one too much", 1, b.of(4, 17));
    }

    /** "(Time is what TRIES took.)": not what they could have taken. */
    private static void timeIsWhatTriesTook() {
        CommandBus b = new CommandBus();
        b.terminal(1, 8, 0);
        b.terminal(2, 0, 0);
        b.set(1, 0);
        Kit.table(b, "get 1 1 8 every 1 at 0 on 0;pass 2 1 3 1 8 every 1 at 0 on 0;get 3 1 8 every 1 at 0 on 0;");
        b.set(0, 52 + 58 + 212);
        b.frame(1);
        Kit.due("52 of 212, 58 of 260", 52 + 58 + 212, b.look(13));
        Kit.due("so it fits", 0, b.log(0, 4));
        b.set(0, 52 + 58 + 211);
        b.frame(1);
        Kit.due("one too much", 6, b.log(0, 4));
        Kit.due("the second", 1, b.log(1, 4));
        b.set(0, 52 + 259);
        b.frame(1);
        Kit.due("TIME of the second, whatever it takes", 6, b.log(1, 4));
    }

    /** "NONE, and nothing is done, if n can't be, or FRAME would be above 9999." */
    private static void lastFrame() {
        for (int left = 0; left <= 61; left += left < 3 || left > 57 ? 1 : 11) {
            for (int n : new int[] {left - 1, left, left + 1}) {
                CommandBus b = new CommandBus();
                Scenes.frames(b, 9999 - left);
                Kit.due("frame", 9999 - left, b.look(2));
                boolean can = n >= 1 && n <= 60 && n <= left;
                Kit.due(n + " of " + left, can ? 0 : -1, b.frame(n));
                Kit.due("frame then", can ? 9999 - left + n : 9999 - left, b.look(2));
            }
        }
    }

    /** "NONE if n can't be, FRAME would be above 9999" */
    private static void lastFrameInThought() {
        for (int left = 0; left <= 21; left++) {
            CommandBus b = new CommandBus();
            Scenes.frames(b, 9999 - left);
            for (int n = 0; n <= 21; n++) {
                boolean can = n >= 1 && n <= 20 && n <= left;
                Kit.due("would " + n + " of " + left, can ? 8 : -1, b.would(n, 2));
            }
            Kit.due("frame", 9999 - left, b.look(2));
        }
    }

    private static void refusedAtTheEnd() {
        Twins late = new Twins(b -> {
            Kit.table(b, "mode 1 17 every 1 at 0 on 0;");
            b.signal(1, 1, 5, 5);
            Scenes.frames(b, 9997);
        });
        late.untouchedBy("frame(3) of two", b -> Kit.due("three", -1, b.frame(3)));
        late.untouchedBy("frame(60) of two", b -> Kit.due("sixty", -1, b.frame(60)));
        late.untouchedBy("would(3) of two", b -> Kit.due("three", -1, b.would(3, 0)));
        late.untouchedBy("would(2) of two", b -> Kit.due("two", 2, b.would(2, 0)));
        late.touchedBy("frame(2) of two", b -> Kit.due("two", 2, b.frame(2)));
    }

    /** FRAME 9998 is the last that goes; FRAME 9999 can be told to terminals, its EVENTS never come. */
    private static void eventsAtTheEnd() {
        CommandBus b = new CommandBus();
        Kit.events(b, "at 0 flag 1 1;at 9997 busy 1 1;at 9998 system 1 1;at 9999 service 1 1;");
        Scenes.frames(b, 9998);
        Kit.due("of 0", 1, b.of(1, 4));
        Kit.due("of 9997", 1, b.of(1, 1));
        Kit.due("not yet", 0, b.of(1, 3));
        Kit.due("the last", 0, b.frame(1));
        Kit.due("of 9998", 1, b.of(1, 3));
        Kit.due("no more", -1, b.frame(1));
        Kit.due("never", 0, b.of(1, 2));
        Kit.due("17", 4, b.once(0, 3, 1, 0, 17));
        Kit.due("sync", 9999, b.of(1, 15));
        Kit.due("as a word", 9999, b.heard(1, 2));
    }
}
