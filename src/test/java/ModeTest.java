/** MODE: every code, with busy, shut and mute terminals, and turned words. */
public final class ModeTest {
    private static final int ERROR = 1 << 10;

    public static void main(String[] args) {
        plain();
        remembered();
        shutting();
        vectors();
        sync();
        unknown();
        busy();
        Kit.finish();
    }

    private static void plain() {
        CommandBus b = new CommandBus();
        b.terminal(3, 4, 1);
        Kit.due("flag", 0, b.once(0, 3, 3, 0, 1));
        Kit.due("command", 3 << 11 | 1 << 10 | 1, b.heard(1, 2));
        Kit.due("flag is told", 3 << 11 | 1, b.heard(0, 2));
        Kit.due("mute", 0, b.once(0, 3, 3, 0, 6));
        Kit.due("at once", 3 << 11, b.heard(0, 2));
        Kit.due("mute", 1, b.of(3, 11));
        Kit.due("no more", 0, b.once(0, 3, 3, 0, 7));
        Kit.due("at once", 3 << 11 | 1, b.heard(0, 2));
        Kit.due("mute", 0, b.of(3, 11));
        Kit.due("took", 3 * 52, b.bus(0, 4));
    }

    private static void remembered() {
        CommandBus b = new CommandBus();
        b.word(-1, 1, 0, 9);
        b.terminal(3, 8, 4);
        b.once(0, 0, 3, 1, 1);
        int sent = 3 << 11 | 1 << 5 | 1;
        Kit.due("2", 0, b.once(0, 3, 3, 0, 2));
        Kit.due("told again", 3 << 11 | ERROR, b.heard(0, 2));
        Kit.due("18", 0, b.once(0, 3, 3, 0, 18));
        Kit.due("status", 3 << 11 | ERROR, b.heard(1, 2));
        Kit.due("command", sent, b.heard(0, 2));
        Kit.due("not changed", sent, b.of(3, 14));
        Kit.due("counted once", 1, b.of(3, 12));
        Kit.due("19", 0, b.once(0, 3, 3, 0, 19));
        Kit.due("error is none", 3 << 11, b.heard(1, 2));
        Kit.due("errors", 1, b.heard(0, 2));
        b.once(0, 2, 0, 2, 1);
        Kit.due("2", 0, b.once(0, 3, 3, 0, 2));
        Kit.due("it took one for all", 3 << 11 | 16, b.heard(0, 2));
        Kit.due("1", 0, b.once(0, 3, 3, 0, 1));
        Kit.due("none", 3 << 11, b.of(3, 13));
        Kit.due("8", 0, b.once(0, 3, 3, 0, 8));
        Kit.due("errors", 0, b.of(3, 12));
    }

    private static void shutting() {
        CommandBus b = new CommandBus();
        Kit.due("4", 0, b.once(0, 3, 1, 0, 4));
        Kit.due("shut", 2, b.of(1, 10));
        Kit.due("no answer", 1, b.once(1, 3, 1, 0, 4));
        Kit.due("but done", 3, b.of(1, 10));
        Kit.due("2 is not answered", 1, b.once(1, 3, 1, 0, 2));
        Kit.due("5", 1, b.once(0, 3, 1, 0, 5));
        Kit.due("other is open", 1, b.of(1, 10));
        Kit.due("answers", 0, b.once(1, 3, 1, 0, 1));
        Kit.due("5", 0, b.once(1, 3, 1, 0, 5));
        Kit.due("open", 0, b.of(1, 10));
        b.once(1, 3, 1, 0, 4);
        b.once(0, 3, 1, 0, 6);
        Kit.due("shut, mute", 1 + 1, b.of(1, 10) + b.of(1, 11));
        Kit.due("8 opens ahead of its answer", 0, b.once(0, 3, 1, 0, 8));
        Kit.due("nowhere", 0, b.of(1, 10) + b.of(1, 11));
    }

    private static void vectors() {
        CommandBus b = new CommandBus();
        b.terminal(6, 2, 1);
        b.terminal(6, 9, 4321);
        Kit.due("16", 0, b.once(0, 3, 6, 0, 16));
        Kit.due("service is told", 6 << 11 | 256, b.heard(1, 2));
        Kit.due("vector", 4321, b.heard(0, 2));
        Kit.due("service", 0, b.of(6, 2));
        Kit.due("last status", 6 << 11 | 256, b.of(6, 13));
        Kit.due("came", 4321, b.of(6, 16));
        Kit.due("how many", 1, b.of(6, 17));
        b.terminal(6, 2, 1);
        b.noise(0, 3);
        Kit.due("turned", 2, b.once(0, 3, 6, 0, 16));
        Kit.due("service is gone", 0, b.of(6, 2));
        Kit.due("how many", 1, b.of(6, 17));
        b.terminal(6, 2, 1);
        b.terminal(6, 9, 5);
        b.terminal(6, 1, 1);
        Kit.due("busy", 4, b.once(1, 3, 6, 0, 16));
        Kit.due("came", 5, b.of(6, 16));
        b.once(1, 3, 6, 0, 4);
        b.terminal(6, 2, 1);
        Kit.due("shut", 1, b.once(0, 3, 6, 0, 16));
        Kit.due("service is gone", 0, b.of(6, 2));
        Kit.due("how many", 2, b.of(6, 17));
        Kit.due("longest", 72, b.bus(0, 5));
    }

    private static void sync() {
        CommandBus b = new CommandBus();
        b.frame(33);
        Kit.due("17", 0, b.once(0, 3, 2, 0, 17));
        Kit.due("command", 2 << 11 | 17, b.heard(2, 2));
        Kit.due("word", 33, b.heard(1, 2));
        Kit.due("sync", 33, b.of(2, 15));
        Kit.due("took", 72, b.bus(0, 4));
        b.frame(1);
        b.noise(0, 2);
        Kit.due("turned", 1, b.once(0, 3, 2, 0, 17));
        Kit.due("sync", 33, b.of(2, 15));
        Kit.due("kept", 2 << 11 | ERROR, b.of(2, 13));
        Kit.due("errors", 1, b.of(2, 12));
        Kit.due("took", 72 + 58, b.bus(0, 4));
        Kit.due("1", 0, b.once(0, 3, 2, 0, 1));
        Kit.due("sync", 0, b.of(2, 15));
    }

    private static void unknown() {
        CommandBus b = new CommandBus();
        int n = 0;
        for (int c = 1; c < 32; c++) {
            boolean known = c == 1 || c == 2 || c >= 4 && c <= 8 || c >= 16 && c <= 19;
            Kit.due("code " + c, known ? 0 : 3, b.once(0, 3, 0, 0, c));
            n = c == 8 ? 0 : known ? n : n + 1;
            Kit.due("errors " + c, n, b.of(0, 12));
        }
    }

    private static void busy() {
        CommandBus b = new CommandBus();
        b.terminal(0, 1, 1);
        for (int c = 1; c < 32; c++) {
            boolean known = c == 1 || c >= 4 && c <= 8 || c == 16 || c == 17 || c == 19;
            Kit.due("code " + c, c == 2 || c == 18 ? 0 : known ? 4 : 3, b.once(0, 3, 0, 0, c));
        }
        Kit.due("2 of what it told", 0, b.once(0, 3, 0, 0, 2));
        Kit.due("both in it", ERROR | 8, b.heard(0, 2));
        Kit.due("4 is done", 4, b.once(0, 3, 0, 0, 4));
        Kit.due("shut", 2, b.of(0, 10));
    }
}
