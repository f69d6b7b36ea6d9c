import java.util.ArrayList;
import java.util.HashMap;
import java.util.LinkedList;
import java.util.List;
import java.util.Map;
import java.util.TreeSet;

/**
 * The document once more, written from its words with the whole library and without a thought of
 * room or speed: random runs are held against it.
 */
public final class Model {
    static final int NONE = -1;

    static final class Unit {
        int power = 1, busy, service, system, flag, accepts, deaf, babbles, legal = 126, vector;
        boolean[] shut = new boolean[2];
        boolean mute;
        int errors, lastStatus, lastCommand, sync, vectorCame, vectors;
        int[][] out = new int[7][8], in = new int[7][8], got = new int[7][8];
        int[][] signal = new int[7][];
        float[] smooth = new float[7];
        int[] tally = new int[5];
    }

    static final class Word {
        int bus, who, bits;
        boolean turned;
    }

    static final class Line {
        String kind;
        int t, s, u, r, n, code, p, q, bus, time;
        boolean any;
        int due, latest = NONE;
        int[] outcomes = new int[8];

        boolean isDue(int f) {
            return f % p == q;
        }
    }

    static final class Fault extends RuntimeException {
        private static final long serialVersionUID = 1L;
        final int code, place;

        Fault(int code, int place) {
            this.code = code;
            this.place = place;
        }
    }

    static final String[] KINDS = {"send", "get", "pass", "all", "mode", "hand"};
    static final String[] EVENTS = {"power", "busy", "service", "system", "flag", "accept", "deaf", "babble", "noise"};

    Unit[] units = new Unit[9];
    int[][] send = new int[7][8];
    int minor = 2000, retries = 1, frame, controller = 8, silence, frameTime, moves, collisions;
    int[][] busSums = new int[2][6];
    List<List<Integer>> noise = new ArrayList<>();
    LinkedList<Word> monitor = new LinkedList<>();
    LinkedList<Integer> trail = new LinkedList<>();
    int trailTotal, logTotal;
    LinkedList<int[]> log = new LinkedList<>();
    List<Line> table = new ArrayList<>();
    List<int[]> script = new ArrayList<>();
    StringBuilder tape = new StringBuilder();
    int fault, place = NONE;
    Model image;

    // of the try that is under way
    int bus, time, statusTold;
    TreeSet<Integer> wanted = new TreeSet<>();

    public Model() {
        for (int t = 0; t < 9; t++) {
            units[t] = new Unit();
            units[t].lastStatus = t * 2048;
        }
        noise.add(new ArrayList<>());
        noise.add(new ArrayList<>());
    }

    // ---------------------------------------------------------------- copies

    static int[][] copy(int[][] a) {
        int[][] b = new int[a.length][];
        for (int i = 0; i < a.length; i++) {
            b[i] = a[i] == null ? null : a[i].clone();
        }
        return b;
    }

    void become(Model m) {
        for (int t = 0; t < 9; t++) {
            Unit a = m.units[t];
            Unit b = new Unit();
            b.power = a.power; b.busy = a.busy; b.service = a.service; b.system = a.system; b.flag = a.flag;
            b.accepts = a.accepts; b.deaf = a.deaf; b.babbles = a.babbles; b.legal = a.legal; b.vector = a.vector;
            b.shut = a.shut.clone(); b.mute = a.mute; b.errors = a.errors; b.lastStatus = a.lastStatus;
            b.lastCommand = a.lastCommand; b.sync = a.sync; b.vectorCame = a.vectorCame; b.vectors = a.vectors;
            b.out = copy(a.out); b.in = copy(a.in); b.got = copy(a.got); b.signal = copy(a.signal);
            b.smooth = a.smooth.clone(); b.tally = a.tally.clone();
            units[t] = b;
        }
        send = copy(m.send);
        minor = m.minor; retries = m.retries; frame = m.frame; controller = m.controller; silence = m.silence;
        frameTime = m.frameTime; moves = m.moves; collisions = m.collisions;
        busSums = copy(m.busSums);
        noise = new ArrayList<>();
        for (List<Integer> l : m.noise) {
            noise.add(new ArrayList<>(l));
        }
        monitor = new LinkedList<>(m.monitor);
        trail = new LinkedList<>(m.trail);
        trailTotal = m.trailTotal; logTotal = m.logTotal;
        log = new LinkedList<>(m.log);
        table = new ArrayList<>();
        for (Line a : m.table) {
            Line b = new Line();
            b.kind = a.kind; b.t = a.t; b.s = a.s; b.u = a.u; b.r = a.r; b.n = a.n; b.code = a.code; b.p = a.p;
            b.q = a.q; b.bus = a.bus; b.time = a.time; b.any = a.any; b.due = a.due; b.latest = a.latest;
            b.outcomes = a.outcomes.clone();
            table.add(b);
        }
        script = new ArrayList<>(m.script);
    }

    // ---------------------------------------------------------------- talks

    boolean held() {
        for (int t = 0; t < 8; t++) {
            if (t != controller && units[t].power == 1 && (units[t].babbles & (bus + 1)) != 0) {
                return true;
            }
        }
        return false;
    }

    boolean[] talk(int who, List<Integer> words) {
        boolean held = held();
        boolean[] turned = new boolean[words.size()];
        if (held) {
            collisions++;
        }
        for (int i = 0; i < words.size(); i++) {
            boolean hit = false;
            List<Integer> left = new ArrayList<>();
            for (int n : noise.get(bus)) {
                if (n == 1) {
                    hit = true;
                } else {
                    left.add(n - 1);
                }
            }
            noise.set(bus, left);
            turned[i] = hit || held;
            Word w = new Word();
            w.bus = bus;
            w.who = who;
            w.bits = words.get(i);
            w.turned = turned[i];
            monitor.addFirst(w);
            if (monitor.size() > 64) {
                monitor.removeLast();
            }
            busSums[bus][0]++;
            busSums[bus][1] += turned[i] ? 1 : 0;
            time += 20;
        }
        busSums[bus][2]++;
        letGo(10 * bus + who);
        return turned;
    }

    void letGo(int what) {
        trail.addFirst(what);
        trailTotal++;
        if (trail.size() > 40) {
            trail.removeLast();
        }
    }

    boolean hears(int t) {
        return units[t].power == 1 && (units[t].deaf & (bus + 1)) == 0 && t != controller;
    }

    static boolean any(boolean[] b, int from) {
        for (int i = from; i < b.length; i++) {
            if (b[i]) {
                return true;
            }
        }
        return false;
    }

    static int command(int t, int talks, int sub, int count) {
        return t * 2048 + talks * 1024 + sub * 32 + count % 32;
    }

    boolean legal(int t, int s) {
        return (units[t].legal & (1 << s)) != 0;
    }

    /** The status as it is told behind all that followed a command. */
    int status(int t, int command, boolean error, boolean all, boolean takes) {
        Unit u = units[t];
        int st = t * 2048 + (error ? 1024 : 0) + u.service * 256 + (all ? 16 : 0) + u.busy * 8 + u.system * 4
            + (takes ? 2 : 0) + (u.mute ? 0 : u.flag);
        if (error) {
            u.errors++;
        }
        u.lastCommand = command;
        u.lastStatus = st;
        return st;
    }

    int noAnswer() {
        time += 14;
        return 1;
    }

    int answer(int t, List<Integer> words, boolean wants) {
        if (t < 8 && units[t].shut[bus]) {
            return noAnswer();
        }
        time += 8;
        if (any(talk(t, words), 0)) {
            return 2;
        }
        statusTold = words.get(0);
        if (wants && (statusTold & 256) != 0) {
            wanted.add(t);
        }
        return (statusTold & 1024) != 0 ? 3 : (statusTold & 8) != 0 ? 4 : 0;
    }

    static List<Integer> list(int... a) {
        List<Integer> l = new ArrayList<>();
        for (int v : a) {
            l.add(v);
        }
        return l;
    }

    // ---------------------------------------------------------------- tries

    int tryIt(int onBus, String kind, int t, int s, int u, int r, int n) {
        bus = onBus;
        time = 0;
        statusTold = 0;
        int o;
        if (kind.equals("send")) {
            o = trySend(t, s, n);
        } else if (kind.equals("get")) {
            o = tryGet(t, s, n);
        } else if (kind.equals("pass")) {
            o = tryPass(t, s, u, r, n);
        } else if (kind.equals("all")) {
            o = tryAll(s, n);
        } else {
            o = tryMode(t, n);
        }
        letGo(100 + bus);
        time += 4;
        busSums[bus][3]++;
        busSums[bus][4] += time;
        busSums[bus][5] = Math.max(busSums[bus][5], time);
        if (!kind.equals("all")) {
            units[t].tally[o]++;
        }
        if (kind.equals("pass")) {
            units[u].tally[o]++;
        }
        return o;
    }

    int trySend(int t, int s, int n) {
        int c = command(t, 0, s, n);
        List<Integer> words = list(c);
        for (int i = 0; i < n; i++) {
            words.add(send[s][i]);
        }
        boolean[] turned = talk(controller, words);
        if (turned[0] || !hears(t)) {
            return noAnswer();
        }
        if (any(turned, 1)) {
            status(t, c, true, false, false);
            return noAnswer();
        }
        boolean error = !legal(t, s);
        if (!error && units[t].busy == 0) {
            for (int i = 0; i < n; i++) {
                units[t].in[s][i] = words.get(i + 1);
            }
        }
        return answer(t, list(status(t, c, error, false, false)), true);
    }

    int answerOut(int t, int s, int n, int c) {
        boolean error = !legal(t, s);
        List<Integer> words = list(status(t, c, error, false, false));
        if (!error && units[t].busy == 0) {
            for (int i = 0; i < n; i++) {
                words.add(units[t].out[s][i]);
            }
        }
        return answer(t, words, true);
    }

    int tryGet(int t, int s, int n) {
        int c = command(t, 1, s, n);
        boolean[] turned = talk(controller, list(c));
        if (turned[0] || !hears(t)) {
            return noAnswer();
        }
        int o = answerOut(t, s, n, c);
        if (o == 0) {
            Unit u = units[t];
            for (int i = 0; i < n; i++) {
                u.got[s][i] = u.out[s][i];
            }
            if (n >= 2 && u.signal[s] != null) {
                int bits = u.got[s][0] << 16 | u.got[s][1];
                int e = bits >>> 23 & 255;
                if (bits == 0 || e >= 64 && e <= 149) {
                    float x = Float.intBitsToFloat(bits);
                    float d = x - u.smooth[s];
                    float q = d * 0.25f;
                    float v = u.smooth[s] + q;
                    u.smooth[s] = v > -0.001f && v < 0.001f ? 0f : v;
                }
            }
        }
        return o;
    }

    int tryPass(int t, int s, int u, int r, int n) {
        int cu = command(u, 0, r, n);
        int ct = command(t, 1, s, n);
        boolean[] turned = talk(controller, list(cu, ct));
        boolean such = hears(u) && !turned[0];
        int o = turned[1] || !hears(t) ? noAnswer() : answerOut(t, s, n, ct);
        if (o != 0) {
            if (such) {
                status(u, cu, o == 2, false, false);
            }
            return o;
        }
        if (!such) {
            return noAnswer();
        }
        boolean error = !legal(u, r);
        if (!error && units[u].busy == 0) {
            for (int i = 0; i < n; i++) {
                units[u].in[r][i] = units[t].out[s][i];
            }
        }
        return answer(u, list(status(u, cu, error, false, false)), true);
    }

    int tryAll(int s, int n) {
        int c = command(31, 0, s, n);
        List<Integer> words = list(c);
        for (int i = 0; i < n; i++) {
            words.add(send[s][i]);
        }
        boolean held = held();
        boolean[] turned = talk(controller, words);
        for (int t = 0; t < 8 && !turned[0]; t++) {
            if (hears(t)) {
                boolean error = any(turned, 1) || !legal(t, s);
                boolean takes = !error && units[t].busy == 0;
                for (int i = 0; i < n && takes; i++) {
                    units[t].in[s][i] = words.get(i + 1);
                }
                status(t, c, error, takes, false);
            }
        }
        return held ? 2 : 0;
    }

    int tryMode(int t, int code) {
        int c = command(t, code == 17 ? 0 : 1, 0, code);
        boolean[] turned = talk(controller, code == 17 ? list(c, frame) : list(c));
        if (turned[0] || !hears(t)) {
            return noAnswer();
        }
        if (t == 8) {
            return answer(8, list(8 * 2048 + 2), false);
        }
        Unit u = units[t];
        if (code == 2 || code == 18) {
            int o = answer(t, code == 2 ? list(u.lastStatus) : list(u.lastStatus, u.lastCommand), false);
            return o > 2 ? 0 : o;
        }
        if (any(turned, 1)) {
            status(t, c, true, false, false);
            return noAnswer();
        }
        boolean error = false;
        boolean takes = false;
        if (code == 0) {
            takes = u.accepts == 1;
        } else if (code == 1) {
            u.sync = 0;
        } else if (code == 4) {
            u.shut[1 - bus] = true;
        } else if (code == 5) {
            u.shut[1 - bus] = false;
        } else if (code == 6) {
            u.mute = true;
        } else if (code == 7) {
            u.mute = false;
        } else if (code == 8) {
            u.shut = new boolean[2];
            u.mute = false;
            u.errors = 0;
        } else if (code == 17) {
            u.sync = frame;
        } else if (code != 16 && code != 19) {
            error = true;
        }
        List<Integer> words = list(status(t, c, error, false, takes));
        if (code == 16) {
            words.add(u.vector);
            u.service = 0;
        }
        if (code == 19) {
            words.add(u.errors % 65536);
        }
        int o = answer(t, words, code != 16);
        if (code == 16 && (o == 0 || o > 2)) {
            u.vectorCame = words.get(1);
            u.vectors++;
        }
        return o;
    }

    // ---------------------------------------------------------------- frames

    int[] oneFrame() {
        for (int[] e : script) {
            if (e[0] == frame) {
                if (e[1] == 8) {
                    noise(e[2], e[3]);
                } else {
                    terminal(e[2], e[1], e[3]);
                }
            }
        }
        for (int t = 0; t < 8; t++) {
            for (int s = 1; s <= 6; s++) {
                int[] sig = units[t].signal[s];
                if (sig != null && units[t].power == 1) {
                    float a = ((float) sig[1]) / 1000f;
                    float b = a * ((float) frame);
                    float x = ((float) sig[0]) / 1000f + b;
                    int bits = Float.floatToRawIntBits(x);
                    units[t].out[s][0] = bits >>> 16;
                    units[t].out[s][1] = bits & 0xFFFF;
                    int w = (int) (x / 0.125f);
                    units[t].out[s][2] = (w > 32767 ? 32767 : w < -32768 ? -32768 : w) & 0xFFFF;
                }
            }
        }
        int good = 0;
        int bad = 0;
        frameTime = 0;
        if (units[controller].power == 0) {
            silence++;
            for (int t = 0; t < 9; t++) {
                boolean can = units[t].power == 1 && (t == 8 || units[t].accepts == 1 && units[t].deaf == 0);
                if (can && silence >= t + 2) {
                    controller = t;
                    moves++;
                    silence = 0;
                    break;
                }
            }
            frame++;
            return new int[] {0, 0};
        }
        silence = 0;
        wanted.clear();
        int heir = NONE;
        for (int i = 0; i < table.size(); i++) {
            Line l = table.get(i);
            if (!l.isDue(frame)) {
                continue;
            }
            int tries = 0;
            int on = NONE;
            int o;
            if (own(l)) {
                o = 7;
            } else if (frameTime + l.time > minor) {
                o = 6;
            } else {
                on = l.bus;
                o = oneTry(l, on);
                tries = 1;
                while (tries <= retries && (o == 1 || o == 2) && frameTime + l.time <= minor) {
                    on = on == 0 ? 1 : 0;
                    o = oneTry(l, on);
                    tries++;
                }
                if (l.kind.equals("hand") && o == 0) {
                    if ((statusTold & 2) != 0) {
                        heir = l.t;
                    } else {
                        o = 5;
                    }
                }
            }
            l.due++;
            l.outcomes[o]++;
            l.latest = o;
            log.addFirst(new int[] {frame, i, tries, on, o});
            logTotal++;
            if (log.size() > 60) {
                log.removeLast();
            }
            if (o == 0) {
                good++;
            } else {
                bad++;
            }
        }
        for (int t : new ArrayList<>(wanted)) {
            if (frameTime + 72 <= minor) {
                tryIt(0, "mode", t, 0, 0, 0, 16);
                frameTime += time;
            }
        }
        if (heir != NONE) {
            controller = heir;
            moves++;
        }
        frame++;
        return new int[] {good, bad};
    }

    int oneTry(Line l, int on) {
        int o = tryIt(on, l.kind, l.t, l.s, l.u, l.r, l.kind.equals("mode") ? l.code : l.n);
        frameTime += time;
        return o;
    }

    boolean own(Line l) {
        switch (l.kind) {
            case "all": return false;
            case "pass": return l.t == controller || l.u == controller;
            default: return l.t == controller;
        }
    }

    // ---------------------------------------------------------------- texts

    static final class Tokens {
        final String text;
        final List<String> known;
        int pos, start;
        String token;

        Tokens(String text, List<String> known) {
            this.text = text;
            this.known = known;
            next();
        }

        void next() {
            while (pos < text.length() && (text.charAt(pos) == ' ' || text.charAt(pos) == '\n')) {
                pos++;
            }
            start = pos;
            if (pos == text.length()) {
                token = "";
                return;
            }
            String c = "" + text.charAt(pos);
            String run = c.matches("[a-zA-Z]") ? "[a-zA-Z]" : c.matches("[0-9]") ? "[0-9]" : null;
            pos++;
            while (run != null && pos < text.length() && ("" + text.charAt(pos)).matches(run)) {
                pos++;
            }
            token = text.substring(start, pos);
            boolean fine = c.matches("[a-zA-Z]") ? known.contains(token)
                : c.matches("[0-9]") ? token.length() <= 4 : token.equals(";");
            if (!fine) {
                token = "?";
            }
        }

        void want(String word) {
            if (!token.equals(word)) {
                throw new Fault(1, start);
            }
            next();
        }

        int number(int least, int most, int not) {
            if (!token.matches("[0-9]+")) {
                throw new Fault(1, start);
            }
            int v = Integer.parseInt(token);
            if (v < least || v > most || v == not) {
                throw new Fault(2, start);
            }
            next();
            return v;
        }
    }

    List<Line> parseTable(String text) {
        Tokens k = new Tokens(text, List.of("send", "get", "pass", "all", "mode", "hand", "every", "at", "any", "on"));
        List<Line> lines = new ArrayList<>();
        while (!k.token.isEmpty()) {
            Line l = new Line();
            l.kind = k.token;
            if (!List.of(KINDS).contains(l.kind)) {
                throw new Fault(1, k.start);
            }
            if (lines.size() == 24) {
                throw new Fault(3, k.start);
            }
            k.next();
            switch (l.kind) {
                case "send": case "get":
                    l.t = k.number(0, 7, -1);
                    l.s = k.number(1, 6, -1);
                    l.n = k.number(1, 8, -1);
                    l.time = 52 + 20 * l.n;
                    break;
                case "pass":
                    l.t = k.number(0, 7, -1);
                    l.s = k.number(1, 6, -1);
                    l.u = k.number(0, 7, l.t);
                    l.r = k.number(1, 6, -1);
                    l.n = k.number(1, 8, -1);
                    l.time = 100 + 20 * l.n;
                    break;
                case "all":
                    l.s = k.number(1, 6, -1);
                    l.n = k.number(1, 8, -1);
                    l.time = 24 + 20 * l.n;
                    break;
                case "mode":
                    l.t = k.number(0, 7, -1);
                    l.code = k.number(0, 31, 0);
                    l.time = l.code >= 16 && l.code <= 19 ? 72 : 52;
                    break;
                default:
                    l.t = k.number(0, 8, -1);
                    l.time = 52;
            }
            k.want("every");
            if (k.token.matches("[0-9]+") && !List.of(1, 2, 4, 8).contains(Integer.parseInt(k.token))) {
                throw new Fault(2, k.start);
            }
            l.p = k.number(1, 8, -1);
            if (k.token.equals("any")) {
                l.any = true;
                k.next();
            } else {
                k.want("at");
                l.q = k.number(0, l.p - 1, -1);
            }
            k.want("on");
            l.bus = k.number(0, 1, -1);
            k.want(";");
            lines.add(l);
        }
        return lines;
    }

    List<int[]> parseEvents(String text) {
        List<String> known = new ArrayList<>(List.of(EVENTS));
        known.add("at");
        Tokens k = new Tokens(text, known);
        List<int[]> lines = new ArrayList<>();
        while (!k.token.isEmpty()) {
            if (!k.token.equals("at")) {
                throw new Fault(1, k.start);
            }
            if (lines.size() == 24) {
                throw new Fault(3, k.start);
            }
            k.next();
            int f = k.number(0, 9999, -1);
            int which = List.of(EVENTS).indexOf(k.token);
            if (which < 0) {
                throw new Fault(1, k.start);
            }
            k.next();
            int t = k.number(0, which == 8 ? 1 : which == 0 ? 8 : 7, -1);
            int v = which == 8 ? k.number(1, 999, -1) : k.number(0, which >= 6 ? 3 : 1, -1);
            k.want(";");
            lines.add(new int[] {f, which, t, v});
        }
        return lines;
    }

    int loadOf(int f, List<Line> lines) {
        int sum = 0;
        for (Line l : lines) {
            sum += l.isDue(f) ? l.time : 0;
        }
        return sum;
    }

    int greatest(List<Line> lines) {
        int most = 0;
        for (int f = 0; f < 8; f++) {
            most = Math.max(most, loadOf(f, lines));
        }
        return most;
    }

    void choosePhases(List<Line> lines) {
        List<Line> placed = new ArrayList<>();
        for (Line l : lines) {
            if (!l.any) {
                placed.add(l);
            }
        }
        for (Line l : lines) {
            if (l.any) {
                placed.add(l);
                int bestQ = 0;
                int best = 999999;
                for (int q = 0; q < l.p; q++) {
                    l.q = q;
                    int most = 0;
                    for (int f = 0; f < 8; f++) {
                        if (l.isDue(f)) {
                            most = Math.max(most, loadOf(f, placed));
                        }
                    }
                    if (most < best) {
                        best = most;
                        bestQ = q;
                    }
                }
                l.q = bestQ;
            }
        }
    }

    int best() {
        List<Line> free = new ArrayList<>();
        for (Line l : table) {
            if (l.any) {
                free.add(l);
            }
        }
        if (free.size() > 4) {
            return NONE;
        }
        int[] was = new int[free.size()];
        int combinations = 1;
        for (int i = 0; i < was.length; i++) {
            was[i] = free.get(i).q;
            combinations *= free.get(i).p;
        }
        int least = 999999;
        for (int c = 0; c < combinations; c++) {
            int rest = c;
            for (Line l : free) {
                l.q = rest % l.p;
                rest /= l.p;
            }
            least = Math.min(least, greatest(table));
        }
        for (int i = 0; i < was.length; i++) {
            free.get(i).q = was[i];
        }
        return least;
    }

    static int quiet(Line l) {
        switch (l.kind) {
            case "send": return 18 + 20 * (1 + l.n);
            case "pass": return 18 + 40;
            case "mode": return l.code == 17 ? 58 : 38;
            default: return 38;
        }
    }

    void tries(Line l, int t, int left, TreeSet<Integer> into) {
        if (t + l.time > minor) {
            into.add(t);
            return;
        }
        into.add(t + l.time);
        if (l.kind.equals("all")) {
            return;
        }
        if (left == 0) {
            into.add(t + quiet(l));
        } else {
            tries(l, t + quiet(l), left - 1, into);
        }
    }

    // ---------------------------------------------------------------- the face

    public boolean set(int what, int v) {
        if (what == 0 && v >= 100 && v <= 9999) {
            minor = v;
            return true;
        }
        if (what == 1 && v >= 0 && v <= 3) {
            retries = v;
            return true;
        }
        return false;
    }

    public boolean terminal(int t, int what, int v) {
        if (t < 0 || t > 8 || v < 0 || t == 8 && what != 0) {
            return false;
        }
        Unit u = units[t];
        switch (what) {
            case 0: if (v > 1) return false; u.power = v; return true;
            case 1: if (v > 1) return false; u.busy = v; return true;
            case 2: if (v > 1) return false; u.service = v; return true;
            case 3: if (v > 1) return false; u.system = v; return true;
            case 4: if (v > 1) return false; u.flag = v; return true;
            case 5: if (v > 1) return false; u.accepts = v; return true;
            case 6: if (v > 3) return false; u.deaf = v; return true;
            case 7: if (v > 3) return false; u.babbles = v; return true;
            case 8: if (v % 2 != 0 || v > 127) return false; u.legal = v; return true;
            case 9: if (v > 65535) return false; u.vector = v; return true;
            default: return false;
        }
    }

    static boolean within(int v, int least, int most) {
        return v >= least && v <= most;
    }

    public boolean word(int t, int sub, int i, int v) {
        if (!within(t, -1, 7) || !within(sub, 1, 6) || !within(i, 0, 7) || !within(v, 0, 65535)) {
            return false;
        }
        (t == NONE ? send : units[t].out)[sub][i] = v;
        return true;
    }

    public boolean signal(int t, int sub, int base, int slope) {
        if (!within(t, 0, 7) || !within(sub, 1, 6) || !within(base, -999999, 999999) || !within(slope, -999999, 999999)) {
            return false;
        }
        units[t].signal[sub] = new int[] {base, slope};
        return true;
    }

    public int noise(int b, int n) {
        if (!within(b, 0, 1) || !within(n, 1, 999) || noise.get(b).size() == 8) {
            return NONE;
        }
        noise.get(b).add(n);
        return noise.get(b).size();
    }

    public int frame(int n) {
        if (!within(n, 1, 60) || frame + n > 9999) {
            return NONE;
        }
        int good = 0;
        for (int k = 0; k < n; k++) {
            good += oneFrame()[0];
        }
        return good;
    }

    public int once(int b, int kind, int t, int sub, int n) {
        boolean can = within(b, 0, 1) && within(kind, 0, 3) && units[controller].power == 1;
        can = can && (kind == 2 || within(t, 0, 7) && t != controller);
        can = can && (kind == 3 ? within(n, 1, 31) : within(sub, 1, 6) && within(n, 1, 8));
        return can ? tryIt(b, new String[] {"send", "get", "all", "mode"}[kind], t, sub, 0, 0, n) : NONE;
    }

    public int feed(int a, int b, int c, int d, int e) {
        if (tape.length() + 20 > 500) {
            return NONE;
        }
        for (int v : new int[] {a, b, c, d, e}) {
            tape.append((char) (v >>> 24)).append((char) (v >>> 16 & 255));
            tape.append((char) (v >>> 8 & 255)).append((char) (v & 255));
        }
        return tape.length();
    }

    public boolean end(int n) {
        if (!within(n, 0, tape.length())) {
            return false;
        }
        tape.setLength(n);
        return true;
    }

    public int table() {
        String text = tape.toString();
        tape.setLength(0);
        fault = 0;
        place = NONE;
        try {
            List<Line> lines = parseTable(text);
            choosePhases(lines);
            table = lines;
            return lines.size();
        } catch (Fault f) {
            fault = f.code;
            place = f.place;
            return NONE;
        }
    }

    public int events() {
        String text = tape.toString();
        tape.setLength(0);
        fault = 0;
        place = NONE;
        try {
            script = parseEvents(text);
            return script.size();
        } catch (Fault f) {
            fault = f.code;
            place = f.place;
            return NONE;
        }
    }

    public int event(int i, int what) {
        return within(i, 0, script.size() - 1) && within(what, 0, 3) ? script.get(i)[what] : NONE;
    }

    public int count(int i, int outcome) {
        return within(i, 0, table.size() - 1) && within(outcome, 0, 7) ? table.get(i).outcomes[outcome] : NONE;
    }

    public int fault(int what) {
        return what == 0 ? fault : what == 1 ? place : NONE;
    }

    public int line(int i, int what) {
        if (!within(i, 0, table.size() - 1) || !within(what, 0, 7)) {
            return NONE;
        }
        Line l = table.get(i);
        return new int[] {List.of(KINDS).indexOf(l.kind), l.p, l.q, l.bus, l.time, l.due, l.outcomes[0], l.latest}[what];
    }

    public int load(int f, int what) {
        if (!within(f, 0, 7) || !within(what, 0, 2)) {
            return NONE;
        }
        int due = 0;
        for (Line l : table) {
            due += l.isDue(f) ? 1 : 0;
        }
        return new int[] {loadOf(f, table), loadOf(f, table) > minor ? 1 : 0, due}[what];
    }

    public int fits(int what) {
        switch (what) {
            case 0: return greatest(table);
            case 1: return best();
            case 2:
                for (int f = 0; f < 8; f++) {
                    if (loadOf(f, table) > minor) {
                        return f;
                    }
                }
                return NONE;
            case 3: return minor - greatest(table);
            default: return NONE - 99999;
        }
    }

    public int spread(int f, int what) {
        if (!within(f, 0, 7) || !within(what, 0, 4)) {
            return NONE;
        }
        TreeSet<Integer> times = new TreeSet<>(List.of(0));
        int crowded = NONE;
        int dearest = 0;
        for (int i = 0; i < table.size(); i++) {
            Line l = table.get(i);
            if (l.isDue(f)) {
                dearest = Math.max(dearest, l.time);
                if (!own(l)) {
                    if (crowded == NONE && times.last() + l.time > minor) {
                        crowded = i;
                    }
                    TreeSet<Integer> then = new TreeSet<>();
                    for (int t : times) {
                        tries(l, t, retries, then);
                    }
                    times = then;
                }
            }
        }
        int roomy = 0;
        for (int t : times) {
            roomy += t + dearest <= minor ? 1 : 0;
        }
        return new int[] {times.size(), times.first(), times.last(), crowded, roomy}[what];
    }

    public int of(int t, int what) {
        if (!within(t, 0, 8) || !within(what, 0, 17) || t == 8 && what != 0) {
            return NONE;
        }
        Unit u = units[t];
        return new int[] {u.power, u.busy, u.service, u.system, u.flag, u.accepts, u.deaf, u.babbles, u.legal, u.vector,
            (u.shut[0] ? 1 : 0) + (u.shut[1] ? 2 : 0), u.mute ? 1 : 0, u.errors, u.lastStatus, u.lastCommand, u.sync,
            u.vectorCame, u.vectors}[what];
    }

    public int at(int t, int sub, int i, int what) {
        if (!within(t, -1, 7) || !within(sub, 1, 6) || !within(i, 0, 7) || !within(what, 0, t == NONE ? 0 : 2)) {
            return NONE;
        }
        return (t == NONE ? send : what == 0 ? units[t].out : what == 1 ? units[t].in : units[t].got)[sub][i];
    }

    public int smooth(int t, int sub, int what) {
        if (!within(t, 0, 7) || !within(sub, 1, 6) || !within(what, 0, 1)) {
            return 0;
        }
        float s = units[t].smooth[sub];
        return what == 0 ? Float.floatToRawIntBits(s) : (int) (s * 1000f);
    }

    public int log(int i, int what) {
        return within(i, 0, log.size() - 1) && within(what, 0, 4) ? log.get(i)[what] : NONE;
    }

    public int trail(int i) {
        return within(i, 0, trail.size() - 1) ? trail.get(i) : NONE;
    }

    public int heard(int i, int what) {
        if (!within(i, 0, monitor.size() - 1) || !within(what, 0, 3)) {
            return NONE;
        }
        Word w = monitor.get(i);
        return new int[] {w.bus, w.who, w.bits, w.turned ? 1 - parity(w.bits) : parity(w.bits)}[what];
    }

    public int bus(int b, int what) {
        return within(b, 0, 1) && within(what, 0, 5) ? busSums[b][what] : NONE;
    }

    public int tally(int t, int outcome) {
        return within(t, 0, 8) && within(outcome, 0, 4) ? units[t].tally[outcome] : NONE;
    }

    /** Played out frame by frame, with everything but silence left away. */
    public int waits(int t) {
        if (!within(t, 0, 8) || t == controller) {
            return NONE;
        }
        for (int k = 1; k < 20; k++) {
            for (int u = 0; u < 9; u++) {
                boolean can = u != controller && units[u].power == 1
                    && (u == 8 || units[u].accepts == 1 && units[u].deaf == 0);
                if (can && silence + k >= u + 2) {
                    return u == t ? k : NONE;
                }
            }
        }
        return NONE;
    }

    public int parity(int v) {
        if (!within(v, 0, 65535)) {
            return NONE;
        }
        int ones = 0;
        for (int b = 0; b < 16; b++) {
            ones += v >> b & 1;
        }
        return ones % 2 == 0 ? 1 : 0;
    }

    public int would(int n, int what) {
        if (!within(n, 1, 20) || !within(what, 0, 3) || frame + n > 9999) {
            return NONE;
        }
        Model m = new Model();
        m.become(this);
        int good = 0;
        int bad = 0;
        int most = 0;
        for (int k = 0; k < n; k++) {
            int[] r = m.oneFrame();
            good += r[0];
            bad += r[1];
            most = Math.max(most, m.frameTime);
        }
        return new int[] {good, bad, m.controller, most}[what];
    }

    public boolean image(boolean taken) {
        if (taken) {
            image = new Model();
            image.become(this);
            return true;
        }
        if (image == null) {
            return false;
        }
        become(image);
        return true;
    }

    public int look(int what) {
        Map<Integer, Integer> all = new HashMap<>();
        int[] values = {minor, retries, frame, controller, table.size(), silence, collisions, busSums[0][0], busSums[1][0],
            noise.get(0).size(), noise.get(1).size(), logTotal, trailTotal, frameTime, moves, script.size()};
        for (int i = 0; i < values.length; i++) {
            all.put(i, values[i]);
        }
        return all.getOrDefault(what, NONE - 99999);
    }
}
