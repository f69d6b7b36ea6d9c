import java.lang.reflect.InvocationTargetException;
import java.lang.reflect.Method;
import java.util.Arrays;
import java.util.function.Consumer;

/**
 * Every argument of every call of the face, on both sides of each of its bounds, the others being
 * fine: within them it is not refused, beyond them it is, and then nothing has changed.
 */
public final class BoundsTest {
    private static final int NO_NUMBER = -100000;
    private static final int[] EXTREMES = {Integer.MIN_VALUE, Integer.MAX_VALUE, 65536, -65536};
    private static final int[] ANY = {Integer.MIN_VALUE, Integer.MAX_VALUE};

    private final String name;
    private final int refused;
    private final Consumer<CommandBus> past;
    private final Twins twins;
    private final Method method;

    private BoundsTest(String name, int refused, Consumer<CommandBus> past) {
        this.name = name;
        this.refused = refused;
        this.past = past;
        twins = new Twins(past);
        Method found = null;
        for (Method m : CommandBus.class.getMethods()) {
            found = m.getName().equals(name) ? m : found;
        }
        method = found;
    }

    public static void main(String[] args) {
        told();
        words();
        tries();
        framesAndTape();
        askedOfLines();
        askedOfTerminals();
        askedOfBuses();
        Kit.finish();
    }

    private int answer(CommandBus b, int[] args) {
        Object[] boxed = Arrays.stream(args).boxed().toArray();
        try {
            Object got = method.invoke(b, boxed);
            return got instanceof Boolean ? ((Boolean) got ? 1 : 0) : (Integer) got;
        } catch (IllegalAccessException | InvocationTargetException e) {
            Kit.due(name + Arrays.toString(args) + " threw " + e.getCause(), true, false);
            return refused;
        }
    }

    private void taken(int... args) {
        CommandBus b = new CommandBus();
        past.accept(b);
        Kit.due(name + Arrays.toString(args) + " is refused", false, answer(b, args) == refused);
    }

    private void refused(int... args) {
        CommandBus b = new CommandBus();
        past.accept(b);
        Kit.due(name + Arrays.toString(args), refused, answer(b, args));
        twins.untouchedBy(name + Arrays.toString(args), c -> answer(c, args));
    }

    private static int[] with(int[] fine, int k, int v) {
        int[] args = fine.clone();
        args[k] = v;
        return args;
    }

    /** Argument k from least to most, the others as they are in what is fine. */
    private void bound(int[] fine, int k, int least, int most) {
        taken(with(fine, k, least));
        taken(with(fine, k, most));
        taken(with(fine, k, least + (most - least) / 2));
        if (least != Integer.MIN_VALUE) {
            refused(with(fine, k, least - 1));
            refused(with(fine, k, most + 1));
            for (int v : EXTREMES) {
                if (v < least || v > most) {
                    refused(with(fine, k, v));
                }
            }
        }
    }

    private void bounds(int[] fine, int[]... both) {
        for (int k = 0; k < fine.length; k++) {
            bound(fine, k, both[k][0], both[k][1]);
        }
    }

    private static int[] of(int... v) {
        return v;
    }

    /** Promises 2, 3, 6: "false if one can't be, or another what", "NONE if one can't be". */
    private static void told() {
        BoundsTest set = new BoundsTest("set", 0, Scenes::lively);
        set.bound(of(0, 2000), 1, 100, 9999);
        set.bound(of(1, 2), 1, 0, 3);
        set.bound(of(0, 100), 0, 0, 0);
        set.bound(of(1, 3), 0, 1, 1);
        BoundsTest terminal = new BoundsTest("terminal", 0, Scenes::lively);
        int[] most = {1, 1, 1, 1, 1, 1, 3, 3, 126, 65535};
        for (int what = 0; what < 10; what++) {
            terminal.bound(of(3, what, 0), 0, 0, what == 0 ? 8 : 7);
            if (what != 8) {
                terminal.bound(of(3, what, 0), 2, 0, most[what]);
            }
        }
        terminal.bound(of(3, 0, 0), 1, 0, 9);
        terminal.bound(of(8, 0, 0), 1, 0, 0);
        terminal.bound(of(8, 0, 0), 2, 0, 1);
        for (int v = -2; v <= 130; v++) {
            if (v >= 0 && v <= 126 && v % 2 == 0) {
                terminal.taken(3, 8, v);
            } else {
                terminal.refused(3, 8, v);
            }
        }
        terminal.refused(3, 8, 256);
        terminal.refused(3, 8, 65536 + 2);
        BoundsTest noise = new BoundsTest("noise", -1, Scenes::lively);
        noise.bounds(of(1, 5), of(0, 1), of(1, 999));
    }

    /** Promises 4, 5, 21, 22. */
    private static void words() {
        BoundsTest word = new BoundsTest("word", 0, Scenes::lively);
        word.bounds(of(3, 2, 3, 4), of(-1, 7), of(1, 6), of(0, 7), of(0, 65535));
        word.bounds(of(-1, 2, 3, 4), of(-1, 7), of(1, 6), of(0, 7), of(0, 65535));
        BoundsTest at = new BoundsTest("at", -1, Scenes::lively);
        at.bounds(of(3, 2, 3, 1), of(0, 7), of(1, 6), of(0, 7), of(0, 2));
        at.bounds(of(-1, 2, 3, 0), of(-1, 7), of(1, 6), of(0, 7), of(0, 0));
        BoundsTest signal = new BoundsTest("signal", 0, Scenes::lively);
        signal.bounds(of(3, 2, 5, 5), of(0, 7), of(1, 6), of(-999999, 999999), of(-999999, 999999));
        BoundsTest smooth = new BoundsTest("smooth", 0, b -> {
            for (int t = 0; t < 8; t++) {
                for (int s = 1; s <= 6; s++) {
                    if (t == 3 || s == 2) {
                        b.signal(t, s, 5000, 0);
                    }
                }
            }
            b.frame(1);
            for (int t = 0; t < 8; t++) {
                b.once(0, 1, t, 2, 2);
                b.once(0, 1, 3, 1 + t % 6, 2);
            }
        });
        smooth.bounds(of(3, 2, 0), of(0, 7), of(1, 6), of(0, 1));
    }

    /** Promise 8: "NONE if one can't be"; what a kind does not name may be anything. */
    private static void tries() {
        BoundsTest once = new BoundsTest("once", -1, Scenes::lively);
        once.bounds(of(0, 0, 3, 2, 2), of(0, 1), of(0, 3), of(0, 7), of(1, 6), of(1, 8));
        once.bounds(of(1, 1, 3, 2, 2), of(0, 1), of(0, 3), of(0, 7), of(1, 6), of(1, 8));
        once.bounds(of(0, 2, 3, 2, 2), of(0, 1), of(0, 3), ANY, of(1, 6), of(1, 8));
        once.bounds(of(0, 3, 3, 2, 2), of(0, 1), of(0, 3), of(0, 7), ANY, of(1, 31));
        BoundsTest silent = new BoundsTest("once", -1, Scenes::silent);
        for (int kind = 0; kind < 4; kind++) {
            silent.refused(0, kind, 2, 1, 1);
        }
        BoundsTest itself = new BoundsTest("once", -1, b -> {
            b.terminal(5, 5, 1);
            Kit.table(b, "hand 5 every 8 at 0 on 0;");
            b.frame(1);
        });
        for (int kind = 0; kind < 4; kind++) {
            itself.taken(0, kind, 4, 1, 1);
            itself.taken(0, kind, 6, 1, 1);
            if (kind == 2) {
                itself.taken(0, kind, 5, 1, 1);
            } else {
                itself.refused(0, kind, 5, 1, 1);
                itself.refused(0, kind, 8, 1, 1);
            }
        }
    }

    /** Promises 7, 10, 30: how many. */
    private static void framesAndTape() {
        new BoundsTest("frame", -1, Scenes::lively).bound(of(5), 0, 1, 60);
        new BoundsTest("would", -1, Scenes::lively).bounds(of(5, 1), of(1, 20), of(0, 3));
        new BoundsTest("end", 0, Scenes::lively).bound(of(5), 0, 0, 20);
        new BoundsTest("end", 0, b -> Kit.put(b, " ".repeat(7))).bound(of(5), 0, 0, 7);
        new BoundsTest("end", 0, b -> b.frame(1)).bound(of(0), 0, 0, 0);
        new BoundsTest("end", 0, b -> Kit.put(b, " ".repeat(500))).bound(of(5), 0, 0, 500);
        BoundsTest feed = new BoundsTest("feed", -1, Scenes::lively);
        feed.bounds(of(1, 2, 3, 4, 5), ANY, ANY, ANY, ANY, ANY);
        BoundsTest full = new BoundsTest("feed", -1, b -> Kit.put(b, " ".repeat(481)));
        full.refused(0, 0, 0, 0, 0);
        full.refused(-1, -1, -1, -1, -1);
    }

    /** Promises 13 to 19, 23: "NONE if there is none such, or another what". */
    private static void askedOfLines() {
        Consumer<CommandBus> full = b -> {
            Kit.table(b, "send 1 1 8 every 1 at 0 on 0;send 2 1 8 every 1 at 0 on 0;mode 3 1 every 1 any on 1;");
            Kit.events(b, "at 1 busy 1 1;at 2 busy 1 0;at 3 noise 1 9;");
            b.set(0, 300);
            b.set(1, 0);
            b.frame(21);
            Kit.table(b, "all");
        };
        new BoundsTest("event", -1, full).bounds(of(1, 1), of(0, 2), of(0, 3));
        new BoundsTest("count", -1, full).bounds(of(1, 1), of(0, 2), of(0, 7));
        new BoundsTest("fault", -1, full).bound(of(1), 0, 0, 1);
        BoundsTest line = new BoundsTest("line", -1, full);
        line.bounds(of(1, 1), of(0, 2), of(0, 7));
        for (int what = 0; what < 8; what++) {
            line.bound(of(1, what), 0, 0, 2);
        }
        BoundsTest load = new BoundsTest("load", -1, full);
        load.bounds(of(1, 1), of(0, 7), of(0, 2));
        new BoundsTest("fits", NO_NUMBER, full).bound(of(1), 0, 0, 3);
        Consumer<CommandBus> crowded = b -> {
            full.accept(b);
            b.set(0, 240);
        };
        BoundsTest spread = new BoundsTest("spread", -1, crowded);
        for (int what = 0; what < 5; what++) {
            spread.bounds(of(1, what), of(0, 7), of(0, 4));
        }
        BoundsTest log = new BoundsTest("log", -1, b -> {
            Kit.table(b, "mode 3 1 every 1 any on 1;");
            b.frame(60);
            b.frame(60);
        });
        for (int what = 0; what < 5; what++) {
            log.bounds(of(1, what), of(0, 59), of(0, 4));
        }
        for (String none : new String[] {"event", "count", "line", "log", "heard"}) {
            BoundsTest empty = new BoundsTest(none, -1, b -> b.frame(1));
            for (int what = 0; what < 5; what++) {
                empty.refused(0, what);
            }
        }
    }

    /** Promises 20, 27, 28, 29, 32. */
    private static void askedOfTerminals() {
        BoundsTest of = new BoundsTest("of", -1, Scenes::lively);
        for (int what = 0; what < 18; what++) {
            of.bounds(of(3, what), of(0, what == 0 ? 8 : 7), of(0, 17));
        }
        of.bound(of(8, 0), 1, 0, 0);
        new BoundsTest("tally", -1, Scenes::lively).bounds(of(3, 3), of(0, 8), of(0, 4));
        new BoundsTest("parity", -1, Scenes::lively).bound(of(3), 0, 0, 65535);
        new BoundsTest("look", NO_NUMBER, Scenes::lively).bound(of(3), 0, 0, 15);
        BoundsTest waits = new BoundsTest("waits", -1, Scenes::lively);
        waits.taken(0);
        for (int t : new int[] {-1, 1, 8, 9, -9, Integer.MIN_VALUE, Integer.MAX_VALUE}) {
            waits.refused(t);
        }
    }

    /** Promises 24 to 26. */
    private static void askedOfBuses() {
        Consumer<CommandBus> busy = b -> {
            for (int k = 0; k < 20; k++) {
                b.once(k & 1, 0, 3, 1, 2);
            }
        };
        new BoundsTest("bus", -1, busy).bounds(of(1, 2), of(0, 1), of(0, 5));
        BoundsTest heard = new BoundsTest("heard", -1, busy);
        for (int what = 0; what < 4; what++) {
            heard.bounds(of(1, what), of(0, 63), of(0, 3));
        }
        new BoundsTest("trail", -1, busy).bound(of(1), 0, 0, 39);
        BoundsTest none = new BoundsTest("trail", -1, b -> b.frame(1));
        none.refused(0);
    }
}
