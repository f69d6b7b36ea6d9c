import java.nio.charset.StandardCharsets;

/** What the tests share: answers that are due, and texts put on the tape. */
final class Kit {
    private static int wrong = 0;
    private static int seen = 0;

    private Kit() {
    }

    static void due(String what, long want, long got) {
        seen++;
        if (got != want) {
            wrong++;
            System.out.println(what + " answered " + got + ", due is " + want);
        }
    }

    static void due(String what, boolean want, boolean got) {
        due(what, want ? 1 : 0, got ? 1 : 0);
    }

    static void none(String what, String got) {
        due(what + got, true, got.isEmpty());
    }

    static void put(CommandBus bus, String text) {
        byte[] bytes = text.getBytes(StandardCharsets.ISO_8859_1);
        int at = 0;
        do {
            int[] five = new int[5];
            for (int k = 0; k < 20; k++) {
                int b = at + k < bytes.length ? bytes[at + k] & 255 : 32;
                five[k / 4] = five[k / 4] << 8 | b;
            }
            bus.feed(five[0], five[1], five[2], five[3], five[4]);
            at += 20;
        } while (at < bytes.length);
        bus.end(bytes.length);
    }

    static int table(CommandBus bus, String text) {
        put(bus, text);
        return bus.table();
    }

    static int events(CommandBus bus, String text) {
        put(bus, text);
        return bus.events();
    }

    static void finish() {
        System.out.println(wrong == 0 ? seen + " answers are as due" : wrong + " of " + seen + " are not as due");
        if (wrong != 0) {
            System.exit(1);
        }
    }
}
