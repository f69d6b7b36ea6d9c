/** Promises 9 to 12, 15: the TAPE of at most 500 bytes, when it is empty, and what stays with a FAULT. */
public final class TapeTest {
    private static final int BLANKS = 0x20202020;
    private static final String HAND = "hand1every1at0on0;";

    public static void main(String[] args) {
        room();
        highestFirst();
        anyByte();
        refusedFeed();
        cut();
        refusedEnd();
        emptyText();
        emptyThen();
        wholeTape();
        staysWithFault();
        latestFault();
        Kit.finish();
    }

    private static int blanks(CommandBus b) {
        return b.feed(BLANKS, BLANKS, BLANKS, BLANKS, BLANKS);
    }

    private static void length(String name, CommandBus b, int n) {
        Kit.due(name + ": not longer", false, b.end(n + 1));
        Kit.due(name + ": so long", true, b.end(n));
    }

    /** "Twenty bytes come behind the TAPE ..: how many it has. NONE .. if there would be more than 500." */
    private static void room() {
        CommandBus b = new CommandBus();
        for (int k = 1; k <= 25; k++) {
            Kit.due("feed " + k, 20 * k, blanks(b));
        }
        Kit.due("feed 26", -1, blanks(b));
        Kit.due("feed 27", -1, blanks(b));
        length("full", b, 500);
        for (int n = 479; n <= 500; n++) {
            CommandBus c = new CommandBus();
            Kit.put(c, " ".repeat(500));
            c.end(n);
            Kit.due("feed behind " + n, n <= 480 ? n + 20 : -1, blanks(c));
            length("behind " + n, c, n <= 480 ? n + 20 : n);
        }
    }

    /** "of each number the highest first": a wrong byte is found where it was fed. */
    private static void highestFirst() {
        for (int k = 0; k < 20; k++) {
            CommandBus b = new CommandBus();
            int[] five = {BLANKS, BLANKS, BLANKS, BLANKS, BLANKS};
            five[k / 4] ^= 0x60 << 24 - 8 * (k % 4);
            b.feed(five[0], five[1], five[2], five[3], five[4]);
            Kit.due("byte " + k, -1, b.table());
            Kit.due("byte " + k, 1, b.fault(0));
            Kit.due("byte " + k, k, b.fault(1));
        }
    }

    /** Bytes 0 .. 255, those above 127 too; 32 and 10 alone are blanks. */
    private static void anyByte() {
        for (int v = 0; v < 256; v++) {
            boolean blank = v == 32 || v == 10;
            CommandBus b = new CommandBus();
            b.feed(v << 24 | 0x202020, BLANKS, BLANKS, BLANKS, BLANKS);
            Kit.due("table of byte " + v, blank ? 0 : -1, b.table());
            Kit.due("place of byte " + v, blank ? -1 : 0, b.fault(1));
            b.feed(0x20200000 | v << 8 | 32, BLANKS, BLANKS, BLANKS, BLANKS);
            Kit.due("events of byte " + v, blank ? 0 : -1, b.events());
            Kit.due("place of byte " + v, blank ? -1 : 2, b.fault(1));
        }
    }

    /** "NONE, and nothing comes": what was refused is not behind the text, nor in it. */
    private static void refusedFeed() {
        CommandBus b = new CommandBus();
        Kit.put(b, " ".repeat(480) + HAND + "  ");
        Kit.due("nothing comes", -1, b.feed(-1, -1, -1, -1, -1));
        Kit.due("one line", 1, b.table());
        b = new CommandBus();
        Kit.put(b, " ".repeat(463) + HAND);
        Kit.due("nothing comes", -1, b.feed(-1, -1, -1, -1, -1));
        length("nothing came", b, 481);
        Kit.due("one line", 1, b.table());
    }

    /** "The TAPE has its first n bytes alone: true" */
    private static void cut() {
        CommandBus b = new CommandBus();
        Kit.put(b, HAND + HAND);
        Kit.due("cut", true, b.end(18));
        Kit.due("the first alone", 1, b.table());
        Kit.put(b, HAND + HAND);
        Kit.due("one byte less", true, b.end(17));
        Kit.due("no end", -1, b.table());
        Kit.due("at its length", 17, b.fault(1));
        Kit.put(b, HAND + HAND);
        Kit.due("nothing", true, b.end(0));
        Kit.due("nothing", 0, b.table());
        Kit.put(b, HAND);
        Kit.due("all of it", true, b.end(18));
        Kit.due("behind it", 38, b.feed(0x68616e64, 0x31657665, 0x72793161, 0x74306f6e, 0x303b2020));
        Kit.due("two", 2, b.table());
        Kit.put(b, HAND);
        b.end(0);
        Kit.due("from its beginning", 20, b.feed(0x68616e64, 0x31657665, 0x72793161, 0x74306f6e, 0x303b2020));
        Kit.due("one", 1, b.table());
    }

    /** "false, changing nothing, if it has not so many, or n is below 0." */
    private static void refusedEnd() {
        for (int n : new int[] {19, 500, 501, Integer.MAX_VALUE, -1, -18, Integer.MIN_VALUE}) {
            CommandBus b = new CommandBus();
            Kit.put(b, HAND);
            Kit.due("end " + n, false, b.end(n));
            length("as long as it was", b, 18);
            Kit.due("as it was", 1, b.table());
        }
        CommandBus b = new CommandBus();
        Kit.due("of none 0", true, b.end(0));
        Kit.due("of none 1", false, b.end(1));
        Kit.due("of none -1", false, b.end(-1));
        Kit.due("cut bytes do not come back", true, putAndCut(b) && !b.end(18));
        Kit.due("cut", -1, b.table());
    }

    private static boolean putAndCut(CommandBus b) {
        Kit.put(b, HAND);
        return b.end(17);
    }

    /** "THE TABLE (empty at first) = {LINE ;}": no LINE at all is a text, too. */
    private static void emptyText() {
        CommandBus b = new CommandBus();
        Kit.due("at first", 0, b.look(4) + b.look(15));
        for (String none : new String[] {"", " ", "\n", " \n \n", " ".repeat(500)}) {
            Kit.due("one line", 1, Kit.table(b, HAND));
            Kit.due("one event", 1, Kit.events(b, "at 1 busy 1 1;"));
            Kit.due("no line", 0, Kit.table(b, none));
            Kit.due("no fault", 0, b.fault(0));
            Kit.due("no place", -1, b.fault(1));
            Kit.due("empty", 0, b.look(4));
            Kit.due("events stay", 1, b.look(15));
            Kit.due("no event", 0, Kit.events(b, none));
            Kit.due("no fault", 0, b.fault(0));
            Kit.due("empty", 0, b.look(15));
            Kit.due("no line", -1, b.line(0, 0));
            Kit.due("no event", -1, b.event(0, 0));
            Kit.due("no load", 0, b.fits(0) + b.fits(1) + b.load(0, 2));
        }
        Kit.due("without any feed", 0, new CommandBus().table());
        Kit.due("without any feed", 0, new CommandBus().events());
    }

    /** "The TAPE, empty then (with a FAULT too)" */
    private static void emptyThen() {
        String[] texts = {HAND, "hand 9", "@", "at 1 busy 1 1;", "at 1 busy 1 2;", ""};
        for (String text : texts) {
            CommandBus b = new CommandBus();
            Kit.put(b, text);
            b.table();
            Kit.due("empty behind table of " + text, false, b.end(1));
            Kit.due("so the next comes first", 20, blanks(b));
            Kit.due("and is all", 0, b.table());
            Kit.put(b, text);
            b.events();
            Kit.due("empty behind events of " + text, false, b.end(1));
            Kit.due("so the next comes first", 20, blanks(b));
            Kit.due("and is all", 0, b.events());
        }
    }

    /** All 500 bytes are read; "the end: the text's length". */
    private static void wholeTape() {
        CommandBus b = new CommandBus();
        Kit.due("; at 499", 1, Kit.table(b, " ".repeat(482) + HAND));
        Kit.due("@ at 499", -1, Kit.table(b, " ".repeat(481) + HAND + "@"));
        Kit.due("@ at 499", 499, b.fault(1));
        Kit.due("no ;", -1, Kit.table(b, " ".repeat(483) + HAND.substring(0, 17)));
        Kit.due("the end", 1, b.fault(0));
        Kit.due("the end", 500, b.fault(1));
        Kit.due("digits to the end", -1, Kit.events(b, "at " + "1".repeat(497)));
        Kit.due("digits to the end", 3, b.fault(1));
        Kit.due("letters to the end", -1, Kit.events(b, "a".repeat(500)));
        Kit.due("letters to the end", 0, b.fault(1));
        Kit.due("; at 499", 1, Kit.events(b, "at 1 busy 1 1" + " ".repeat(486) + ";"));
    }

    /** "NONE: a FAULT (it stays as it was)", "(they stay as they were)": its lines, their counts, all. */
    private static void staysWithFault() {
        String[] wrong = {"@", "hand 9 every 1 at 0 on 0;", "hand 1 every 1 at 0 on 0; hand", "at 1 busy 1 1; at 2 busy 9 1;",
            "send 7 6 8 every 1 any on 1;get 7 6 8 every 3"};
        Twins busy = new Twins(Scenes::busy);
        for (String text : wrong) {
            busy.untouchedButFault("a table with a fault, " + text, b -> read(b, text, false));
            busy.untouchedButFault("events with a fault, " + text, b -> read(b, text, true));
        }
        busy.touchedBy("a table", b -> Kit.table(b, HAND));
        busy.touchedBy("a table of none", b -> b.table());
        busy.touchedBy("events", b -> Kit.events(b, "at 13 busy 1 1;"));
        busy.touchedBy("events of none", b -> b.events());
    }

    private static void read(CommandBus b, String text, boolean ofEvents) {
        Kit.put(b, text);
        Kit.due("fault of " + text, -1, ofEvents ? b.events() : b.table());
    }

    /** "Of the latest table(), events() what 0 the FAULT (0 without one), 1 its place (NONE)." */
    private static void latestFault() {
        CommandBus b = new CommandBus();
        told(b, "at first", 0, -1);
        Kit.table(b, " hand 9");
        told(b, "table", 2, 6);
        Kit.put(b, "at");
        told(b, "a tape is no reading", 2, 6);
        b.events();
        told(b, "events", 1, 2);
        Kit.table(b, HAND);
        told(b, "without one", 0, -1);
        Kit.events(b, "at 1 busy 8 1;");
        told(b, "events", 2, 10);
        b.events();
        told(b, "events of none", 0, -1);
        Kit.table(b, HAND.repeat(24) + " hand");
        told(b, "25", 3, 433);
        b.frame(1);
        b.image(true);
        Kit.table(b, "@");
        told(b, "table", 1, 0);
        b.image(false);
        told(b, "an image leaves it", 1, 0);
        Kit.table(b, "");
        b.image(false);
        told(b, "an image does not bring it", 0, -1);
    }

    private static void told(CommandBus b, String name, int fault, int place) {
        Kit.due(name, fault, b.fault(0));
        Kit.due(name, place, b.fault(1));
        Kit.due(name + ": another what", -1, b.fault(2));
    }
}
