import java.lang.reflect.InvocationTargetException;
import java.lang.reflect.Method;
import java.util.ArrayList;
import java.util.Arrays;
import java.util.Collections;
import java.util.HashMap;
import java.util.List;
import java.util.Map;
import java.util.Random;

/** Random runs of at most 512 calls, each call held against the model. The seeds are fixed. */
public final class ModelTest {
    private static final Map<String, Method[]> FACE = new HashMap<>();
    private static final int[] ODD = {-1, -2, Integer.MIN_VALUE, Integer.MAX_VALUE, 9, 10, 31, 32, 64, 100, 65535, 65536};

    private final Random random;
    private final CommandBus bus = new CommandBus();
    private final Model model = new Model();
    private final List<String> calls = new ArrayList<>();
    private boolean wrong = false;
    private static final Map<String, Integer> SEEN = new HashMap<>();

    private ModelTest(long seed) {
        random = new Random(seed);
    }

    public static void main(String[] args) throws Exception {
        for (Method m : CommandBus.class.getDeclaredMethods()) {
            if (java.lang.reflect.Modifier.isPublic(m.getModifiers())) {
                FACE.put(m.getName(), new Method[] {m, Model.class.getMethod(m.getName(), m.getParameterTypes())});
            }
        }
        Kit.due("methods", 32, FACE.size() + 1);
        int runs = args.length > 0 ? Integer.parseInt(args[0]) : 1500;
        for (int seed = 0; seed < runs; seed++) {
            ModelTest run = new ModelTest(seed);
            run.play();
            Kit.due("run " + seed, false, run.wrong);
            if (run.wrong) {
                break;
            }
        }
        for (int o = 0; o < 8; o++) {
            Kit.due("outcome " + o + " was seen", true, SEEN.getOrDefault("line " + o, 0) > 50);
        }
        for (int f = 0; f < 4; f++) {
            Kit.due("fault " + f + " was seen", true, SEEN.getOrDefault("fault " + f, 0) > 5);
        }
        if (args.length > 0) {
            System.out.println(SEEN);
        }
        Kit.finish();
    }

    private int call(String name, Object... args) {
        if (wrong || calls.size() >= 512) {
            return 0;
        }
        Method[] both = FACE.get(name);
        try {
            Object a = both[0].invoke(bus, args);
            Object b = both[1].invoke(model, args);
            calls.add(name + Arrays.toString(args) + " = " + a);
            if (!a.equals(b)) {
                wrong = true;
                calls.forEach(System.out::println);
                System.out.println("the model answers " + b);
            }
            return a instanceof Boolean ? ((Boolean) a ? 1 : 0) : (Integer) a;
        } catch (InvocationTargetException | IllegalAccessException e) {
            wrong = true;
            calls.forEach(System.out::println);
            System.out.println(name + Arrays.toString(args) + " threw " + e + " " + e.getCause());
            return 0;
        }
    }

    private int upTo(int n) {
        return random.nextInt(n + 1);
    }

    private int from(int a, int b) {
        return a + random.nextInt(b - a + 1);
    }

    private boolean chance(int percent) {
        return random.nextInt(100) < percent;
    }

    /** Mostly a number within bounds, now and then one that is not. */
    private int about(int a, int b) {
        if (chance(97)) {
            return from(a, b);
        }
        return chance(60) ? (chance(50) ? a - 1 : b + 1) : ODD[upTo(ODD.length - 1)];
    }

    private void play() {
        int most = from(60, 400);
        begin();
        for (int k = 0; k < 400 && !wrong && calls.size() < most; k++) {
            int pick = upTo(99);
            if (pick < 18) {
                tell();
            } else if (pick < 30) {
                call("noise", about(0, 1), chance(80) ? about(1, 25) : about(1, 999));
            } else if (pick < 50) {
                call("frame", chance(90) ? from(1, 3) : about(1, 60));
            } else if (pick < 68) {
                once();
            } else if (pick < 70) {
                texts();
            } else if (pick < 72) {
                call("image", chance(50));
            } else if (pick < 75) {
                call("would", about(1, 20), about(0, 3));
            } else {
                ask();
            }
        }
        count();
    }

    private void begin() {
        if (chance(80)) {
            table();
        }
        if (chance(50)) {
            events();
        }
        int n = upTo(12);
        for (int k = 0; k < n; k++) {
            call("word", from(-1, 7), from(1, 6), from(0, 7), upTo(65535));
        }
        n = upTo(4);
        for (int k = 0; k < n; k++) {
            call("signal", upTo(7), from(1, 3), from(-5000, 5000), from(-300, 300));
        }
        if (chance(30)) {
            call("set", 0, chance(50) ? from(100, 500) : from(100, 3000));
        }
        if (chance(40)) {
            call("set", 1, upTo(3));
        }
    }

    private void tell() {
        int pick = upTo(9);
        if (pick < 6) {
            int what = about(0, 9);
            int most = what < 6 ? 1 : what < 8 ? 3 : what == 8 ? 126 : 65535;
            int v = what == 7 && chance(70) ? 0 : what == 8 ? from(0, 63) * 2 : about(0, most);
            call("terminal", chance(60) ? upTo(3) : about(0, 8), what, what == 0 && chance(60) ? 1 : v);
        } else if (pick < 7) {
            call("word", about(-1, 7), about(1, 6), about(0, 7), about(0, 65535));
        } else if (pick < 8) {
            call("signal", about(0, 7), about(1, 6), about(-999999, 999999), about(-999999, 999999));
        } else {
            int what = about(0, 1);
            call("set", what, what == 0 ? (chance(50) ? about(100, 9999) : from(100, 600)) : about(0, 3));
        }
    }

    private void once() {
        int kind = about(0, 3);
        int t = chance(70) ? upTo(3) : about(0, 7);
        call("once", about(0, 1), kind, t, chance(70) ? from(1, 3) : about(1, 6), kind == 3 ? about(1, 19) : about(1, 8));
    }

    private void texts() {
        if (chance(10)) {
            call("feed", random.nextInt(), random.nextInt(), random.nextInt(), random.nextInt(), random.nextInt());
        }
        if (chance(60)) {
            table();
        } else {
            events();
        }
        call("fault", 0);
        call("fault", 1);
        SEEN.merge("fault " + model.fault, 1, Integer::sum);
    }

    private String blank() {
        return chance(90) ? " " : chance(50) ? "\n " : "  ";
    }

    private void table() {
        StringBuilder text = new StringBuilder();
        int n = chance(6) ? from(23, 26) : from(0, 8);
        int most = chance(60) ? 3 : 7;
        for (int k = 0; k < n && text.length() < 470; k++) {
            boolean tight = n > 20;
            String[] kinds = {"send", "get", "pass", "all", "mode", "hand"};
            String kind = tight ? "hand" : kinds[chance(15) ? 5 : upTo(4)];
            String gap = tight ? "" : blank();
            text.append(kind).append(gap);
            switch (kind) {
                case "send": case "get":
                    text.append(upTo(most)).append(gap).append(' ').append(from(1, 3)).append(blank()).append(from(1, 8));
                    break;
                case "pass":
                    text.append(upTo(most)).append(' ').append(from(1, 3)).append(blank()).append(upTo(most));
                    text.append(' ').append(from(1, 3)).append(' ').append(from(1, 8));
                    break;
                case "all":
                    text.append(from(1, 3)).append(' ').append(from(1, 8));
                    break;
                case "mode":
                    text.append(upTo(most)).append(' ').append(chance(80) ? from(1, 19) : upTo(31));
                    break;
                default:
                    text.append(chance(30) ? 8 : upTo(most));
            }
            int p = 1 << upTo(3);
            text.append(gap).append("every").append(gap).append(p);
            text.append(chance(40) && !tight ? " any " : gap + "at" + gap + upTo(p - 1));
            text.append(gap).append("on").append(gap).append(upTo(1)).append(";");
        }
        put(spoil(text));
        call("table");
    }

    private void events() {
        StringBuilder text = new StringBuilder();
        int n = chance(6) ? from(23, 26) : upTo(6);
        boolean tight = n > 20;
        for (int k = 0; k < n && text.length() < 470; k++) {
            int which = tight ? 4 : upTo(8);
            text.append("at").append(tight ? "" : " ").append(tight ? 9 : model.frame + upTo(25));
            text.append(Model.EVENTS[which]).append(blank());
            if (which == 8) {
                text.append(upTo(1)).append(' ').append(from(1, 60));
            } else {
                text.append(upTo(which == 0 ? 8 : 7)).append(' ').append(which > 5 ? upTo(3) : upTo(1));
            }
            text.append(";");
        }
        put(spoil(text));
        call("events");
    }

    private String spoil(StringBuilder text) {
        if (chance(25) && text.length() > 0) {
            int at = upTo(text.length() - 1);
            String[] odd = {"", ";", "9", "0", "12345", "x", " ", "at", "any", "every", "\t", "\u00e9", "7 ", "99 ", "A"};
            text.replace(at, Math.min(text.length(), at + upTo(2)), odd[upTo(odd.length - 1)]);
        }
        return text.toString();
    }

    private void put(String text) {
        int was = model.tape.length();
        int at = 0;
        while (at < text.length()) {
            int[] five = new int[5];
            for (int k = 0; k < 20; k++) {
                five[k / 4] = five[k / 4] << 8 | (at + k < text.length() ? text.charAt(at + k) : 32);
            }
            call("feed", five[0], five[1], five[2], five[3], five[4]);
            at += 20;
        }
        call("end", chance(98) ? Math.min(was + text.length(), model.tape.length()) : about(0, 500));
    }

    private void ask() {
        int t = about(0, 7);
        int sub = chance(70) ? from(1, 3) : about(1, 6);
        switch (upTo(19)) {
            case 0: call("event", about(0, 8), about(0, 3)); break;
            case 1: call("count", about(0, 8), about(0, 7)); break;
            case 2: call("fault", about(0, 1)); break;
            case 3: call("line", about(0, 8), about(0, 7)); break;
            case 4: call("load", about(0, 7), about(0, 2)); break;
            case 5: call("fits", about(0, 3)); break;
            case 6: call("spread", about(0, 7), about(0, 4)); break;
            case 7: case 8: call("of", chance(50) ? upTo(3) : about(0, 8), chance(60) ? from(10, 17) : about(0, 17)); break;
            case 9: call("at", about(-1, 7), sub, about(0, 7), about(0, 2)); break;
            case 10: call("smooth", t, sub, about(0, 1)); break;
            case 11: case 12: call("log", chance(80) ? upTo(5) : about(0, 59), about(0, 4)); break;
            case 13: call("trail", chance(80) ? upTo(5) : about(0, 39)); break;
            case 14: call("heard", chance(80) ? upTo(9) : about(0, 63), about(0, 3)); break;
            case 15: call("bus", about(0, 1), about(0, 5)); break;
            case 16: call("tally", about(0, 8), about(0, 4)); break;
            case 17: call("waits", about(0, 8)); break;
            case 18: call("parity", about(0, 65535)); break;
            default: call("look", about(0, 15)); break;
        }
    }

    /** At the end of a run, as much as its calls leave room for of all that can be asked. */
    private void count() {
        List<Object[]> all = new ArrayList<>();
        put(all, "look", -1, 17, 0, 1);
        put(all, "of", 0, 9, 0, 18);
        put(all, "tally", 0, 9, 0, 5);
        put(all, "waits", 0, 9, 0, 1);
        put(all, "heard", 0, 65, 0, 4);
        put(all, "trail", 0, 41, 0, 1);
        put(all, "log", 0, 61, 0, 5);
        put(all, "line", 0, model.table.size(), 0, 8);
        put(all, "spread", 0, 8, 0, 5);
        put(all, "load", 0, 8, 0, 3);
        put(all, "fits", 0, 5, 0, 1);
        put(all, "bus", 0, 2, 0, 6);
        for (int t = 0; t < 8; t++) {
            for (int s = 1; s <= 6; s++) {
                all.add(new Object[] {"smooth", t, s, upTo(1)});
                all.add(new Object[] {"at", t, s, upTo(7), upTo(2)});
                all.add(new Object[] {"at", t, s, upTo(1), 2});
            }
        }
        for (int i = 0; i < model.table.size(); i++) {
            for (int o = 0; o < 8; o++) {
                SEEN.merge("line " + o, model.count(i, o), Integer::sum);
                all.add(new Object[] {"count", i, o});
            }
        }
        Collections.shuffle(all, random);
        for (Object[] asked : all) {
            call((String) asked[0], Arrays.copyOfRange(asked, 1, asked.length));
        }
    }

    private static void put(List<Object[]> all, String name, int from, int to, int least, int most) {
        boolean one = FACE.get(name)[0].getParameterCount() == 1;
        for (int i = from; i < to; i++) {
            for (int what = least; what < most; what++) {
                all.add(one ? new Object[] {name, i} : new Object[] {name, i, what});
            }
        }
    }
}
