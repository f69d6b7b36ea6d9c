/** "An object is used for at most 512 calls after it has been made": the 512th is answered as any other. */
public final class CallsTest {
    public static void main(String[] args) {
        tries();
        frames();
        images();
        thoughts();
        readings();
        feeds();
        Kit.finish();
    }

    private static void tries() {
        CommandBus b = new CommandBus();
        for (int k = 0; k < 510; k++) {
            Kit.due("try", 0, b.once(0, 2, 0, 1, 8));
        }
        Kit.due("call 511", 510 * 9, b.look(7));
        Kit.due("call 512", 510 * 184, b.bus(0, 4));
    }

    /** The most that one object can be made to do: 9999 frames of 24 lines, each tried four times. */
    private static void frames() {
        CommandBus b = new CommandBus();
        b.set(0, 9999);
        b.set(1, 3);
        Kit.table(b, Scenes.every(24, "mode1 3"));
        int lines = b.look(4);
        b.terminal(1, 0, 0);
        Scenes.frames(b, 9999);
        Kit.due("tries", 2L * 9999 * lines, b.bus(0, 3));
        Kit.due("tries", 2L * 9999 * lines, b.bus(1, 3));
        Kit.due("time", 38L * 2 * 9999 * lines, b.bus(1, 4));
        Kit.due("log", 9999L * lines, b.look(11));
        Kit.due("trail", 8L * 9999 * lines, b.look(12));
        Kit.due("due", 9999, b.line(23, 5));
        Kit.due("count", 9999, b.count(23, 1));
        Kit.due("tally", 4L * 9999 * lines, b.tally(1, 1));
        Kit.due("latest", 9998, b.log(0, 0));
    }

    private static void images() {
        CommandBus b = new CommandBus();
        b.image(true);
        for (int k = 0; k < 255; k++) {
            b.frame(1 + k % 60);
            Kit.due("back", true, b.image(false));
        }
        Kit.due("call 512", 0, b.look(2));
    }

    private static void thoughts() {
        CommandBus b = new CommandBus();
        Kit.table(b, "mode 1 1 every 1 at 0 on 0;");
        for (int k = 0; k < 507; k++) {
            Kit.due("would", 20, b.would(20, 0));
        }
        Kit.due("call 512", 0, b.look(11));
    }

    private static void readings() {
        CommandBus b = new CommandBus();
        for (int k = 0; k < 127; k++) {
            Kit.due("table", 1, Kit.table(b, "hand1every1at0on0;"));
            Kit.due("events", 0, b.events());
        }
        Kit.due("no event", 0, b.look(15));
        b.frame(1);
        b.frame(1);
        Kit.due("call 512", 2, b.count(0, 5));
    }

    private static void feeds() {
        CommandBus b = new CommandBus();
        for (int k = 1; k <= 511; k++) {
            Kit.due("feed", k <= 25 ? 20 * k : -1, b.feed(k, k, k, k, k));
        }
        Kit.due("call 512", true, b.end(500));
    }
}
