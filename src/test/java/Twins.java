import java.util.ArrayList;
import java.util.List;
import java.util.function.Consumer;
import java.util.function.ToIntFunction;

/**
 * Objects with the same past, of which some have had one call more: whether that call left anything
 * behind. All that can be asked is more than the 512 calls of one object, so each part of the
 * questions is put to an object of its own.
 */
final class Twins {
    private static final int PART = 320;
    private static final List<String> NAMES = new ArrayList<>();
    private static final List<ToIntFunction<CommandBus>> QUESTIONS = new ArrayList<>();
    // What is told but not yet seen shows in what comes of it: frames, the image, the tape.
    private static final List<ToIntFunction<CommandBus>> FUTURES = List.of(
        b -> 0, b -> b.frame(4), b -> b.image(false) ? 1 : 0,
        b -> b.feed(0x20202020, 0x20202020, 0x20202020, 0x20202020, 0x20202020) * 100 + b.table(), b -> b.events());

    static {
        askAbout("look", 16, 1, (b, i, k) -> b.look(i));
        askAbout("fault", 2, 1, (b, i, k) -> b.fault(i));
        askAbout("fits", 4, 1, (b, i, k) -> b.fits(i));
        askAbout("of", 9, 18, (b, i, k) -> b.of(i, k));
        askAbout("tally", 9, 5, (b, i, k) -> b.tally(i, k));
        askAbout("bus", 2, 6, (b, i, k) -> b.bus(i, k));
        askAbout("waits", 9, 1, (b, i, k) -> b.waits(i));
        askAbout("trail", 40, 1, (b, i, k) -> b.trail(i));
        askAbout("line", 24, 8, (b, i, k) -> b.line(i, k));
        askAbout("count", 24, 8, (b, i, k) -> b.count(i, k));
        askAbout("event", 24, 4, (b, i, k) -> b.event(i, k));
        askAbout("load", 8, 3, (b, i, k) -> b.load(i, k));
        askAbout("spread", 8, 5, (b, i, k) -> b.spread(i, k));
        askAbout("smooth", 48, 2, (b, i, k) -> b.smooth(i / 6, 1 + i % 6, k));
        askAbout("log", 60, 5, (b, i, k) -> b.log(i, k));
        askAbout("heard", 64, 4, (b, i, k) -> b.heard(i, k));
        askAbout("send", 6, 8, (b, i, k) -> b.at(-1, 1 + i, k, 0));
        askAbout("at", 48, 24, (b, i, k) -> b.at(i / 6, 1 + i % 6, k / 3, k % 3));
    }

    private interface Asked {
        int of(CommandBus b, int i, int k);
    }

    private static void askAbout(String name, int rows, int columns, Asked asked) {
        for (int i = 0; i < rows; i++) {
            for (int k = 0; k < columns; k++) {
                int row = i;
                int column = k;
                // The blank behind it ends a name, so that one is never the beginning of another.
                NAMES.add(name + " " + i + " " + k + " ");
                QUESTIONS.add(b -> asked.of(b, row, column));
            }
        }
    }

    private final Consumer<CommandBus> past;
    private final int[] before;

    Twins(Consumer<CommandBus> past) {
        this.past = past;
        before = answers(past);
    }

    /** How many questions are asked behind a future: all now and behind frames, else the first. */
    private static int asked(int future) {
        return future <= 1 ? QUESTIONS.size() : PART;
    }

    /** How many of all answers are asked at once, behind no future. */
    private static int now() {
        return QUESTIONS.size() + (QUESTIONS.size() + PART - 1) / PART;
    }

    private static int[] answers(Consumer<CommandBus> past) {
        int[] all = new int[2 * QUESTIONS.size() + FUTURES.size() * (PART + 1)];
        int at = 0;
        for (int k = 0; k < FUTURES.size(); k++) {
            CommandBus b = null;
            for (int q = 0; q < asked(k); q++) {
                if (q % PART == 0) {
                    b = new CommandBus();
                    past.accept(b);
                    all[at++] = FUTURES.get(k).applyAsInt(b);
                }
                all[at++] = QUESTIONS.get(q).applyAsInt(b);
            }
        }
        return all;
    }

    /** The names of all answers, in their order. */
    private static List<String> names() {
        List<String> all = new ArrayList<>();
        for (int k = 0; k < FUTURES.size(); k++) {
            for (int q = 0; q < asked(k); q++) {
                if (q % PART == 0) {
                    all.add("future " + k);
                }
                all.add(NAMES.get(q) + (k == 0 ? "" : "behind future " + k));
            }
        }
        return all;
    }

    /** A call that must leave everything as it was. */
    void untouchedBy(String name, Consumer<CommandBus> call) {
        Kit.none(name + " changes ", difference(call));
    }

    /** The same of all but fault(). */
    void untouchedButFault(String name, Consumer<CommandBus> call) {
        Kit.none(name + " changes ", difference(call, "fault"));
    }

    /** A call that may change answers of some names alone. */
    void touchedNoMoreThan(String name, Consumer<CommandBus> call, String... allowed) {
        Kit.none(name + " changes ", difference(call, allowed));
    }

    /** The same, asked at once alone: what comes of it later may be anything. */
    void touchesAtOnce(String name, Consumer<CommandBus> call, String... allowed) {
        Kit.none(name + " changes ", difference(call, now(), allowed));
    }

    /** A call that must leave something behind: else the questions would see nothing. */
    void touchedBy(String name, Consumer<CommandBus> call) {
        Kit.due(name + " changes something", false, difference(call, "fault").isEmpty());
    }

    /** The first answer, but those of some names, that is another one behind a call; empty if none is. */
    private String difference(Consumer<CommandBus> call, String... but) {
        return difference(call, before.length, but);
    }

    private String difference(Consumer<CommandBus> call, int seen, String[] but) {
        int[] after = answers(past.andThen(call));
        List<String> names = null;
        for (int k = 0; k < seen; k++) {
            if (before[k] != after[k]) {
                names = names == null ? names() : names;
                if (!isOneOf(names.get(k), but)) {
                    return names.get(k) + "from " + before[k] + " to " + after[k];
                }
            }
        }
        return "";
    }

    private static boolean isOneOf(String name, String... beginnings) {
        for (String beginning : beginnings) {
            if (name.startsWith(beginning)) {
                return true;
            }
        }
        return false;
    }
}
