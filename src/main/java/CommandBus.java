import java.util.Arrays;

/**
 * Two buses on which nobody talks unasked. The face below looks at every argument; the classes
 * inside may then rely on what they are given.
 */
public final class CommandBus {
    public static final int NONE = -1;

    private static final int NO_NUMBER = NONE - 99999;
    private static final int FIRST = 8;
    private static final int LAST_FRAME = 9999;

    private final World world;
    private final Trial trial;
    private final Frames frames;
    private final Reader reader;
    private final Times times;
    // Both stay null until they are asked for, so that an object that never looks back stays small.
    private World kept;
    private World spare;

    public CommandBus() {
        world = new World();
        trial = new Trial(world);
        frames = new Frames(world, trial);
        reader = new Reader();
        times = new Times();
        kept = null;
        spare = null;
    }

    public boolean set(int what, int v) {
        if (what == 0 && v >= 100 && v <= 9999) {
            world.minor = v;
            return true;
        }
        if (what == 1 && v >= 0 && v <= 3) {
            world.retries = v;
            return true;
        }
        return false;
    }

    public boolean terminal(int t, int what, int v) {
        return world.units.tell(t, what, v);
    }

    public boolean word(int t, int sub, int i, int v) {
        if (t < NONE || t >= FIRST || !isSub(sub) || i < 0 || i > 7 || v < 0 || v > 65535) {
            return false;
        }
        int spot = t == NONE ? Units.sendSpot(sub) : Units.spot(Units.OUT, t, sub);
        world.units.words[spot + i] = v;
        return true;
    }

    public boolean signal(int t, int sub, int base, int slope) {
        if (t < 0 || t >= FIRST || !isSub(sub) || !isThousandths(base) || !isThousandths(slope)) {
            return false;
        }
        world.units.tellSignal(t, sub, base, slope);
        return true;
    }

    public int noise(int bus, int n) {
        if (bus < 0 || bus > 1 || n < 1 || n > 999) {
            return NONE;
        }
        return world.wires.addNoise(bus, n);
    }

    public int frame(int n) {
        if (n < 1 || n > 60 || world.frame + n > LAST_FRAME) {
            return NONE;
        }
        frames.restart();
        for (int k = 0; k < n; k++) {
            frames.play();
        }
        return frames.good;
    }

    public int once(int bus, int kind, int t, int sub, int n) {
        if (bus < 0 || bus > 1 || kind < 0 || kind > 3 || !world.units.hasPower(world.controller)) {
            return NONE;
        }
        if (kind != 2 && (t < 0 || t >= FIRST || t == world.controller)) {
            return NONE;
        }
        if (kind == 3) {
            return n < 1 || n > 31 ? NONE : trial.attempt(bus, Plan.MODE, t, 0, n, 0, 0);
        }
        if (!isSub(sub) || n < 1 || n > 8) {
            return NONE;
        }
        int told = kind == 0 ? Plan.SEND : kind == 1 ? Plan.GET : Plan.ALL;
        return trial.attempt(bus, told, kind == 2 ? 0 : t, sub, n, 0, 0);
    }

    public int feed(int a, int b, int c, int d, int e) {
        if (!reader.hasRoom()) {
            return NONE;
        }
        reader.add(a);
        reader.add(b);
        reader.add(c);
        reader.add(d);
        reader.add(e);
        return reader.length;
    }

    public boolean end(int n) {
        if (n < 0 || n > reader.length) {
            return false;
        }
        reader.length = n;
        return true;
    }

    public int table() {
        int n = reader.readTable();
        if (n != NONE) {
            world.plan.adopt(reader.rows, n);
        }
        return n;
    }

    public int events() {
        int n = reader.readEvents();
        if (n != NONE) {
            world.script.adopt(reader.rows, n);
        }
        return n;
    }

    public int event(int i, int what) {
        Script script = world.script;
        if (i < 0 || i >= script.size || what < 0 || what >= Script.WIDTH) {
            return NONE;
        }
        return script.rows[i * Script.WIDTH + what];
    }

    public int count(int i, int outcome) {
        if (i < 0 || i >= world.plan.size || outcome < 0 || outcome >= Plan.OUTCOMES) {
            return NONE;
        }
        return world.plan.counts[i * Plan.OUTCOMES + outcome];
    }

    public int fault(int what) {
        if (what == 0) {
            return reader.fault;
        }
        return what == 1 ? reader.place : NONE;
    }

    public int line(int i, int what) {
        Plan plan = world.plan;
        if (i < 0 || i >= plan.size) {
            return NONE;
        }
        switch (what) {
            case 0: return plan.told(i, Plan.KIND);
            case 1: return plan.told(i, Plan.PERIOD);
            case 2: return plan.told(i, Plan.PHASE);
            case 3: return plan.told(i, Plan.BUS);
            case 4: return plan.told(i, Plan.TIME);
            case 5: return plan.due[i];
            case 6: return plan.counts[i * Plan.OUTCOMES];
            case 7: return plan.latest[i];
            default: return NONE;
        }
    }

    public int load(int f, int what) {
        if (f < 0 || f >= Plan.CYCLE) {
            return NONE;
        }
        int sum = world.plan.loads[f];
        switch (what) {
            case 0: return sum;
            case 1: return sum > world.minor ? 1 : 0;
            case 2: return world.plan.linesDue(f);
            default: return NONE;
        }
    }

    public int fits(int what) {
        Plan plan = world.plan;
        switch (what) {
            case 0: return plan.greatestLoad();
            case 1: return plan.leastPeak();
            case 2: return plan.firstAbove(world.minor);
            case 3: return world.minor - plan.greatestLoad();
            default: return NO_NUMBER;
        }
    }

    public int spread(int f, int what) {
        if (f < 0 || f >= Plan.CYCLE || what < 0 || what > 4) {
            return NONE;
        }
        times.gather(world, f);
        switch (what) {
            case 0: return times.howMany(world.minor);
            case 1: return times.least(world.minor);
            case 2: return times.greatest(world.minor);
            case 3: return times.crowded;
            default: return times.howMany(world.minor - times.dearest);
        }
    }

    public int of(int t, int what) {
        if (t < 0 || t > FIRST || what < 0 || what >= Units.WIDTH || t == FIRST && what != 0) {
            return NONE;
        }
        return world.units.told[t * Units.WIDTH + what];
    }

    public int at(int t, int sub, int i, int what) {
        if (t < NONE || t >= FIRST || !isSub(sub) || i < 0 || i > 7 || what < 0 || what > 2) {
            return NONE;
        }
        if (t == NONE) {
            return what == 0 ? world.units.words[Units.sendSpot(sub) + i] : NONE;
        }
        return world.units.words[Units.spot(what, t, sub) + i];
    }

    public int smooth(int t, int sub, int what) {
        if (t < 0 || t >= FIRST || !isSub(sub)) {
            return 0;
        }
        float mean = world.units.means[Units.cell(t, sub)];
        switch (what) {
            case 0: return Fraction.bitsOf(mean);
            case 1: return (int) (mean * 1000f);
            default: return 0;
        }
    }

    public int log(int i, int what) {
        return world.journal.recall(i, what);
    }

    public int trail(int i) {
        return world.wires.freed.recall(i, 0);
    }

    public int heard(int i, int what) {
        Ring monitor = world.wires.monitor;
        if (what != 3) {
            return monitor.recall(i, what);
        }
        int turned = monitor.recall(i, 3);
        return turned == NONE ? NONE : oddBit(monitor.recall(i, 2)) ^ turned;
    }

    public int bus(int bus, int what) {
        if (bus < 0 || bus > 1 || what < 0 || what >= Wires.WIDTH) {
            return NONE;
        }
        return world.wires.sums[bus * Wires.WIDTH + what];
    }

    public int tally(int t, int outcome) {
        if (t < 0 || t > FIRST || outcome < 0 || outcome >= Units.SCORES) {
            return NONE;
        }
        return world.units.scores[t * Units.SCORES + outcome];
    }

    public int waits(int t) {
        if (t < 0 || t > FIRST || !world.couldLead(t)) {
            return NONE;
        }
        // A lesser number never waits longer, so any of these that could lead goes ahead.
        for (int u = 0; u < t; u++) {
            if (world.couldLead(u)) {
                return NONE;
            }
        }
        return Math.max(1, t + 2 - world.silence);
    }

    public int parity(int v) {
        return v < 0 || v > 65535 ? NONE : oddBit(v);
    }

    public int would(int n, int what) {
        if (n < 1 || n > 20 || what < 0 || what > 3 || world.frame + n > LAST_FRAME) {
            return NONE;
        }
        if (spare == null) {
            spare = new World();
        }
        spare.copyFrom(world);
        frames.restart();
        for (int k = 0; k < n; k++) {
            frames.play();
        }
        int leader = world.controller;
        world.copyFrom(spare);
        switch (what) {
            case 0: return frames.good;
            case 1: return frames.bad;
            case 2: return leader;
            default: return frames.longest;
        }
    }

    public boolean image(boolean taken) {
        if (taken) {
            if (kept == null) {
                kept = new World();
            }
            kept.copyFrom(world);
            return true;
        }
        if (kept == null) {
            return false;
        }
        world.copyFrom(kept);
        return true;
    }

    public int look(int what) {
        Wires wires = world.wires;
        switch (what) {
            case 0: return world.minor;
            case 1: return world.retries;
            case 2: return world.frame;
            case 3: return world.controller;
            case 4: return world.plan.size;
            case 5: return world.silence;
            case 6: return wires.collisions;
            case 7: return wires.sums[Wires.LAID];
            case 8: return wires.sums[Wires.WIDTH + Wires.LAID];
            case 9: return wires.pending[0];
            case 10: return wires.pending[1];
            case 11: return world.journal.total;
            case 12: return wires.freed.total;
            case 13: return world.frameTime;
            case 14: return world.moves;
            case 15: return world.script.size;
            default: return NO_NUMBER;
        }
    }

    private static boolean isSub(int sub) {
        return sub >= 1 && sub <= 6;
    }

    private static boolean isThousandths(int v) {
        return v >= -999999 && v <= 999999;
    }

    private static int oddBit(int v) {
        return 1 - (Integer.bitCount(v) & 1);
    }

    /** The latest rows of something that goes on and on; the oldest row is written over. */
    private static final class Ring {
        final int room;
        final int width;
        final int[] cells;
        int next;
        int total;

        Ring(int room, int width) {
            this.room = room;
            this.width = width;
            cells = new int[room * width];
        }

        /** Where the cells of the newest row begin. */
        int claim() {
            int start = next * width;
            next = next + 1 >= room ? 0 : next + 1;
            total++;
            return start;
        }

        int recall(int i, int what) {
            if (i < 0 || i >= room || i >= total || what < 0 || what >= width) {
                return NONE;
            }
            int row = next - 1 - i;
            return cells[(row < 0 ? row + room : row) * width + what];
        }

        void copyFrom(Ring other) {
            System.arraycopy(other.cells, 0, cells, 0, cells.length);
            next = other.next;
            total = other.total;
        }
    }

    /** The terminals (and FIRST as number 8): what was told of them, what they have and send. */
    private static final class Units {
        static final int POWER = 0;
        static final int BUSY = 1;
        static final int SERVICE = 2;
        static final int SYSTEM = 3;
        static final int FLAG = 4;
        static final int ACCEPTS = 5;
        static final int DEAF = 6;
        static final int BABBLES = 7;
        static final int LEGAL = 8;
        static final int VECTOR = 9;
        static final int SHUT = 10;
        static final int MUTE = 11;
        static final int ERRORS = 12;
        static final int LAST_STATUS = 13;
        static final int LAST_COMMAND = 14;
        static final int SYNC = 15;
        static final int VECTOR_CAME = 16;
        static final int VECTORS = 17;
        static final int WIDTH = 18;

        static final int OUT = 0;
        static final int IN = 1;
        static final int GOT = 2;

        static final int SCORES = 5;
        static final int CELLS = 48;
        static final int ALL_SUBS = 126;

        static final int ERROR_BIT = 1 << 10;
        static final int SERVICE_BIT = 1 << 8;
        static final int ALL_BIT = 1 << 4;
        static final int BUSY_BIT = 1 << 3;
        static final int SYSTEM_BIT = 1 << 2;
        static final int TAKES_BIT = 1 << 1;

        private static final int[] MOST = {1, 1, 1, 1, 1, 1, 3, 3, 126, 65535};

        final int[] told = new int[(FIRST + 1) * WIDTH];
        final int[] words = new int[3 * CELLS * 8 + 6 * 8];
        final int[] bases = new int[CELLS];
        final int[] slopes = new int[CELLS];
        final int[] signalled = new int[CELLS];
        final float[] means = new float[CELLS];
        final int[] scores = new int[(FIRST + 1) * SCORES];

        Units() {
            for (int t = 0; t <= FIRST; t++) {
                told[t * WIDTH + POWER] = 1;
            }
            for (int t = 0; t < FIRST; t++) {
                told[t * WIDTH + LEGAL] = ALL_SUBS;
                told[t * WIDTH + LAST_STATUS] = t << 11;
            }
        }

        static int cell(int t, int sub) {
            return t * 6 + sub - 1;
        }

        static int spot(int what, int t, int sub) {
            return (what * CELLS + cell(t, sub)) * 8;
        }

        static int sendSpot(int sub) {
            return (3 * CELLS + sub - 1) * 8;
        }

        boolean tell(int t, int what, int v) {
            if (t < 0 || t > FIRST || what < 0 || what > VECTOR || t == FIRST && what != POWER) {
                return false;
            }
            if (v < 0 || v > MOST[what] || what == LEGAL && (v & ~ALL_SUBS) != 0) {
                return false;
            }
            told[t * WIDTH + what] = v;
            return true;
        }

        void tellSignal(int t, int sub, int base, int slope) {
            int cell = cell(t, sub);
            bases[cell] = base;
            slopes[cell] = slope;
            signalled[cell] = 1;
        }

        boolean hasPower(int t) {
            return told[t * WIDTH + POWER] != 0;
        }

        boolean hears(int t, int bus, int controller) {
            return t != controller && hasPower(t) && (told[t * WIDTH + DEAF] >> bus & 1) == 0;
        }

        boolean isShut(int t, int bus) {
            return (told[t * WIDTH + SHUT] >> bus & 1) != 0;
        }

        boolean isLegal(int t, int sub) {
            return (told[t * WIDTH + LEGAL] >> sub & 1) != 0;
        }

        boolean isBusy(int t) {
            return told[t * WIDTH + BUSY] != 0;
        }

        /** Whether somebody babbles over all that is laid on a bus. */
        boolean hold(int bus, int controller) {
            for (int t = 0; t < FIRST; t++) {
                if (t != controller && hasPower(t) && (told[t * WIDTH + BABBLES] >> bus & 1) != 0) {
                    return true;
                }
            }
            return false;
        }

        /** FIRST was made to control: it need not accept, and is never deaf. */
        boolean isReadyToLead(int t) {
            int o = t * WIDTH;
            return hasPower(t) && (t == FIRST || told[o + ACCEPTS] != 0 && told[o + DEAF] == 0);
        }

        /** Ends what a right command began: what it leaves in the terminal, and its status. */
        int settle(int t, int command, int bits) {
            int o = t * WIDTH;
            if ((bits & ERROR_BIT) != 0) {
                told[o + ERRORS]++;
            }
            int status = t << 11 | bits;
            status |= told[o + SERVICE] != 0 ? SERVICE_BIT : 0;
            status |= told[o + BUSY] != 0 ? BUSY_BIT : 0;
            status |= told[o + SYSTEM] != 0 ? SYSTEM_BIT : 0;
            status |= told[o + MUTE] == 0 ? told[o + FLAG] : 0;
            told[o + LAST_STATUS] = status;
            told[o + LAST_COMMAND] = command;
            return status;
        }

        /** n words that came right, for a sub, from a place among all words; its status. */
        int take(int t, int sub, int n, int command, int from, int bits) {
            if (!isLegal(t, sub)) {
                return settle(t, command, ERROR_BIT);
            }
            if (isBusy(t)) {
                return settle(t, command, 0);
            }
            System.arraycopy(words, from, words, spot(IN, t, sub), n);
            return settle(t, command, bits);
        }

        /** Does what a code tells; the bits that its status has by that. */
        int obey(int t, int code, int bus, int word) {
            int o = t * WIDTH;
            int other = 1 << (1 - bus);
            switch (code) {
                case 0: return told[o + ACCEPTS] != 0 ? TAKES_BIT : 0;
                case 1: told[o + SYNC] = 0; return 0;
                case 4: told[o + SHUT] |= other; return 0;
                case 5: told[o + SHUT] &= ~other; return 0;
                case 6: told[o + MUTE] = 1; return 0;
                case 7: told[o + MUTE] = 0; return 0;
                case 8:
                    told[o + SHUT] = 0;
                    told[o + MUTE] = 0;
                    told[o + ERRORS] = 0;
                    return 0;
                case 16: return 0;
                case 17: told[o + SYNC] = word; return 0;
                case 19: return 0;
                default: return ERROR_BIT;
            }
        }

        void noteVector(int t, int vector) {
            told[t * WIDTH + VECTOR_CAME] = vector;
            told[t * WIDTH + VECTORS]++;
        }

        /** Signals go on by themselves, asked for or not. */
        void drive(int frame) {
            for (int cell = 0; cell < CELLS; cell++) {
                if (signalled[cell] != 0 && hasPower(cell / 6)) {
                    float way = (float) slopes[cell] / 1000f * (float) frame;
                    float x = (float) bases[cell] / 1000f + way;
                    int bits = Fraction.bitsOf(x);
                    int eighths = Math.max(-32768, Math.min(32767, (int) (x / 0.125f)));
                    words[cell * 8] = bits >>> 16;
                    words[cell * 8 + 1] = bits & 65535;
                    words[cell * 8 + 2] = eighths & 65535;
                }
            }
        }

        /** What a terminal sent has come to the controllers. */
        void keep(int t, int sub, int n) {
            int from = spot(OUT, t, sub);
            System.arraycopy(words, from, words, spot(GOT, t, sub), n);
            int cell = cell(t, sub);
            if (n < 2 || signalled[cell] == 0) {
                return;
            }
            int bits = words[from] << 16 | words[from + 1];
            if (Fraction.isTame(bits)) {
                means[cell] = Fraction.smoothed(means[cell], bits);
            }
        }

        void copyFrom(Units other) {
            System.arraycopy(other.told, 0, told, 0, told.length);
            System.arraycopy(other.words, 0, words, 0, words.length);
            System.arraycopy(other.bases, 0, bases, 0, CELLS);
            System.arraycopy(other.slopes, 0, slopes, 0, CELLS);
            System.arraycopy(other.signalled, 0, signalled, 0, CELLS);
            System.arraycopy(other.means, 0, means, 0, CELLS);
            System.arraycopy(other.scores, 0, scores, 0, scores.length);
        }
    }

    /** Fractions of 32 bits and their bits, by arithmetic: the library for it is ruled out. */
    private static final class Fraction {
        private static final int HIDDEN = 1 << 23;

        /** No fraction here is nearer to 0 than 2 to the -63, so none is without its hidden bit. */
        static int bitsOf(float x) {
            if (x == 0f) {
                return 0;
            }
            float v = x < 0f ? -x : x;
            int exponent = 127;
            for (int k = 0; k < 128 && v >= 2f; k++) {
                v = v * 0.5f;
                exponent++;
            }
            for (int k = 0; k < 126 && v < 1f; k++) {
                v = v * 2f;
                exponent--;
            }
            int bits = exponent << 23 | (int) (v * (float) HIDDEN) & (HIDDEN - 1);
            return x < 0f ? bits | 1 << 31 : bits;
        }

        static boolean isTame(int bits) {
            int exponent = bits >>> 23 & 255;
            return bits == 0 || exponent >= 64 && exponent <= 149;
        }

        private static float ofTame(int bits) {
            if (bits == 0) {
                return 0f;
            }
            float v = (float) (bits & (HIDDEN - 1) | HIDDEN);
            for (int exponent = bits >>> 23 & 255; exponent < 150; exponent++) {
                v = v * 0.5f;
            }
            return bits < 0 ? -v : v;
        }

        static float smoothed(float mean, int bits) {
            float step = (ofTame(bits) - mean) * 0.25f;
            float now = mean + step;
            return now > -0.001f && now < 0.001f ? 0f : now;
        }
    }

    /** The two buses: what was laid on them, what is to turn there, and what was let go. */
    private static final class Wires {
        static final int LAID = 0;
        static final int TURNED = 1;
        static final int TALKS = 2;
        static final int TRIES = 3;
        static final int TOOK = 4;
        static final int LONGEST = 5;
        static final int WIDTH = 6;
        static final int NOISES = 8;

        final int[] sums = new int[2 * WIDTH];
        final int[] noises = new int[2 * NOISES];
        final int[] pending = new int[2];
        final Ring monitor = new Ring(64, 4);
        final Ring freed = new Ring(40, 1);
        int collisions;

        int addNoise(int bus, int n) {
            if (pending[bus] >= NOISES) {
                return NONE;
            }
            noises[bus * NOISES + pending[bus]] = sums[bus * WIDTH + LAID] + n;
            pending[bus]++;
            return pending[bus];
        }

        /** A whole talk, from its opening till it is let go: which of its words were turned. */
        int lay(int bus, int who, int[] words, int n, boolean held) {
            int turned = 0;
            for (int i = 0; i < n; i++) {
                sums[bus * WIDTH + LAID]++;
                boolean hit = isStruck(bus, sums[bus * WIDTH + LAID]) || held;
                if (hit) {
                    turned |= 1 << i;
                    sums[bus * WIDTH + TURNED]++;
                }
                int o = monitor.claim();
                monitor.cells[o] = bus;
                monitor.cells[o + 1] = who;
                monitor.cells[o + 2] = words[i];
                monitor.cells[o + 3] = hit ? 1 : 0;
            }
            sums[bus * WIDTH + TALKS]++;
            if (held) {
                collisions++;
            }
            freed.cells[freed.claim()] = 10 * bus + who;
            return turned;
        }

        private boolean isStruck(int bus, int number) {
            boolean hit = false;
            int left = 0;
            for (int k = 0; k < pending[bus]; k++) {
                int due = noises[bus * NOISES + k];
                if (due == number) {
                    hit = true;
                } else {
                    noises[bus * NOISES + left] = due;
                    left++;
                }
            }
            pending[bus] = left;
            return hit;
        }

        void closeSlot(int bus, int took) {
            freed.cells[freed.claim()] = 100 + bus;
            int o = bus * WIDTH;
            sums[o + TRIES]++;
            sums[o + TOOK] += took;
            sums[o + LONGEST] = Math.max(sums[o + LONGEST], took);
        }

        void copyFrom(Wires other) {
            System.arraycopy(other.sums, 0, sums, 0, sums.length);
            System.arraycopy(other.noises, 0, noises, 0, noises.length);
            System.arraycopy(other.pending, 0, pending, 0, pending.length);
            monitor.copyFrom(other.monitor);
            freed.copyFrom(other.freed);
            collisions = other.collisions;
        }
    }

    /** THE TABLE, with what became of its lines. */
    private static final class Plan {
        static final int SEND = 0;
        static final int GET = 1;
        static final int PASS = 2;
        static final int ALL = 3;
        static final int MODE = 4;
        static final int HAND = 5;

        static final int KIND = 0;
        static final int UNIT = 1;
        static final int SUB = 2;
        static final int UNIT_TO = 3;
        static final int SUB_TO = 4;
        static final int NUMBER = 5;
        static final int PERIOD = 6;
        static final int PHASE = 7;
        static final int ANY = 8;
        static final int BUS = 9;
        static final int TIME = 10;
        static final int WIDTH = 11;

        static final int ROOM = 24;
        static final int OUTCOMES = 8;
        static final int CYCLE = 8;
        static final int MOST_FREE = 4;

        final int[] rows = new int[ROOM * WIDTH];
        final int[] counts = new int[ROOM * OUTCOMES];
        final int[] due = new int[ROOM];
        final int[] latest = new int[ROOM];
        final int[] loads = new int[CYCLE];
        int size;
        // Only leastPeak() uses these, within one call.
        private final int[] heap = new int[CYCLE];
        private int peak;

        int told(int i, int what) {
            return rows[i * WIDTH + what];
        }

        void adopt(int[] from, int n) {
            System.arraycopy(from, 0, rows, 0, n * WIDTH);
            size = n;
            Arrays.fill(counts, 0);
            Arrays.fill(due, 0);
            Arrays.fill(latest, NONE);
            for (int i = 0; i < n; i++) {
                rows[i * WIDTH + TIME] = timeOf(i);
            }
            layFixed(loads);
            for (int i = 0; i < n; i++) {
                if (told(i, ANY) != 0) {
                    rows[i * WIDTH + PHASE] = lowestPhase(i);
                    pile(loads, i, told(i, PHASE), told(i, TIME));
                }
            }
        }

        private int timeOf(int i) {
            int n = told(i, NUMBER);
            switch (told(i, KIND)) {
                case SEND: return 52 + 20 * n;
                case GET: return 52 + 20 * n;
                case PASS: return 100 + 20 * n;
                case ALL: return 24 + 20 * n;
                default: return n >= 16 && n <= 19 ? 72 : 52;
            }
        }

        /** How long a try of a line takes that finds no answer. */
        int quietTime(int i) {
            int n = told(i, NUMBER);
            switch (told(i, KIND)) {
                case SEND: return 38 + 20 * n;
                case PASS: return 58;
                case MODE: return n == 17 ? 58 : 38;
                default: return 38;
            }
        }

        private void layFixed(int[] sums) {
            Arrays.fill(sums, 0);
            for (int i = 0; i < size; i++) {
                if (told(i, ANY) == 0) {
                    pile(sums, i, told(i, PHASE), told(i, TIME));
                }
            }
        }

        private void pile(int[] sums, int i, int phase, int time) {
            int step = Math.max(1, told(i, PERIOD));
            for (int f = phase; f < CYCLE; f += step) {
                sums[f] += time;
            }
        }

        private int lowestPhase(int i) {
            int best = 0;
            int least = 0;
            int step = Math.max(1, told(i, PERIOD));
            for (int q = 0; q < step; q++) {
                int most = 0;
                for (int f = q; f < CYCLE; f += step) {
                    most = Math.max(most, loads[f]);
                }
                if (q == 0 || most < least) {
                    least = most;
                    best = q;
                }
            }
            return best;
        }

        boolean isDue(int i, int frame) {
            // A period is 1, 2, 4 or 8: its remainder is a mask.
            return (frame & (told(i, PERIOD) - 1)) == told(i, PHASE);
        }

        int linesDue(int f) {
            int n = 0;
            for (int i = 0; i < size; i++) {
                n += isDue(i, f) ? 1 : 0;
            }
            return n;
        }

        boolean touches(int i, int unit) {
            int kind = told(i, KIND);
            return kind != ALL && told(i, UNIT) == unit || kind == PASS && told(i, UNIT_TO) == unit;
        }

        int greatestLoad() {
            return greatestOf(loads);
        }

        private int greatestOf(int[] sums) {
            int most = 0;
            for (int f = 0; f < CYCLE; f++) {
                most = Math.max(most, sums[f]);
            }
            return most;
        }

        int firstAbove(int minor) {
            for (int f = 0; f < CYCLE; f++) {
                if (loads[f] > minor) {
                    return f;
                }
            }
            return NONE;
        }

        /** BEST. */
        int leastPeak() {
            int free = 0;
            for (int i = 0; i < size; i++) {
                free += told(i, ANY);
            }
            if (free > MOST_FREE) {
                return NONE;
            }
            peak = greatestLoad();
            layFixed(heap);
            seek(0, 0);
            return peak;
        }

        /** Tries every phase of the free lines from one on, but no heap that is no lower. */
        private void seek(int from, int depth) {
            int i = from;
            while (i < size && told(i, ANY) == 0) {
                i++;
            }
            int most = greatestOf(heap);
            if (most >= peak || depth > MOST_FREE) {
                return;
            }
            if (i >= size) {
                peak = most;
                return;
            }
            int time = told(i, TIME);
            for (int q = 0; q < told(i, PERIOD); q++) {
                pile(heap, i, q, time);
                seek(i + 1, depth + 1);
                pile(heap, i, q, -time);
            }
        }

        void note(int i, int outcome) {
            due[i]++;
            counts[i * OUTCOMES + outcome]++;
            latest[i] = outcome;
        }

        void copyFrom(Plan other) {
            System.arraycopy(other.rows, 0, rows, 0, rows.length);
            System.arraycopy(other.counts, 0, counts, 0, counts.length);
            System.arraycopy(other.due, 0, due, 0, ROOM);
            System.arraycopy(other.latest, 0, latest, 0, ROOM);
            System.arraycopy(other.loads, 0, loads, 0, CYCLE);
            size = other.size;
        }
    }

    /** THE EVENTS. */
    private static final class Script {
        static final int WHEN = 0;
        static final int WHICH = 1;
        static final int UNIT = 2;
        static final int VALUE = 3;
        static final int WIDTH = 4;
        static final int NOISE = 8;

        final int[] rows = new int[Plan.ROOM * WIDTH];
        int size;

        void adopt(int[] from, int n) {
            System.arraycopy(from, 0, rows, 0, n * WIDTH);
            size = n;
        }

        void copyFrom(Script other) {
            System.arraycopy(other.rows, 0, rows, 0, rows.length);
            size = other.size;
        }
    }

    /** All that an image holds. */
    private static final class World {
        final Units units = new Units();
        final Wires wires = new Wires();
        final Plan plan = new Plan();
        final Script script = new Script();
        final Ring journal = new Ring(60, 5);
        int minor = 2000;
        int retries = 1;
        int frame;
        int controller = FIRST;
        int silence;
        int frameTime;
        int moves;

        boolean couldLead(int t) {
            return t != controller && units.isReadyToLead(t);
        }

        void moveControl(int t) {
            controller = t;
            moves++;
        }

        void copyFrom(World other) {
            units.copyFrom(other.units);
            wires.copyFrom(other.wires);
            plan.copyFrom(other.plan);
            script.copyFrom(other.script);
            journal.copyFrom(other.journal);
            minor = other.minor;
            retries = other.retries;
            frame = other.frame;
            controller = other.controller;
            silence = other.silence;
            frameTime = other.frameTime;
            moves = other.moves;
        }
    }

    /** One TRY of a message on one bus. */
    private static final class Trial {
        private final World world;
        private final Units units;
        private final Wires wires;
        // The words of the talk that is being laid; behind an answer, those of that answer.
        private final int[] laid = new int[9];
        private int bus;
        private boolean held;
        int time;
        int wanted;

        Trial(World world) {
            this.world = world;
            units = world.units;
            wires = world.wires;
        }

        int attempt(int onBus, int kind, int t, int sub, int n, int to, int subTo) {
            bus = onBus;
            // Nothing that a try does makes anybody begin or end to babble.
            held = units.hold(bus, world.controller);
            time = 0;
            int outcome;
            switch (kind) {
                case Plan.SEND: outcome = send(t, sub, n); break;
                case Plan.GET: outcome = get(t, sub, n); break;
                case Plan.PASS: outcome = pass(t, sub, n, to, subTo); break;
                case Plan.ALL: outcome = sendAll(sub, n); break;
                default: outcome = mode(t, n); break;
            }
            time += 4;
            wires.closeSlot(bus, time);
            if (kind != Plan.ALL) {
                units.scores[t * Units.SCORES + outcome]++;
            }
            if (kind == Plan.PASS) {
                units.scores[to * Units.SCORES + outcome]++;
            }
            return outcome;
        }

        /** Whether the status that came last in an answer takes control. */
        boolean takesControl() {
            return (laid[0] & Units.TAKES_BIT) != 0;
        }

        private static int encode(int t, int talk, int sub, int n) {
            return t << 11 | talk << 10 | sub << 5 | n & 31;
        }

        private static boolean isLost(int outcome) {
            return outcome == 1 || outcome == 2;
        }

        private int say(int n) {
            time += 20 * n;
            return wires.lay(bus, world.controller, laid, n, held);
        }

        private boolean reaches(int t, int turned) {
            return turned == 0 && units.hears(t, bus, world.controller);
        }

        private int noAnswer() {
            time += 14;
            return 1;
        }

        /** An answer of n words that lie ready, the status first, if the terminal may talk here. */
        private int answer(int t, int n) {
            if (units.isShut(t, bus)) {
                return noAnswer();
            }
            time += 8 + 20 * n;
            if (wires.lay(bus, t, laid, n, held) != 0) {
                return 2;
            }
            if ((laid[0] & Units.ERROR_BIT) != 0) {
                return 3;
            }
            return (laid[0] & Units.BUSY_BIT) != 0 ? 4 : 0;
        }

        private int heedService(int t, int outcome) {
            if (!isLost(outcome) && (laid[0] & Units.SERVICE_BIT) != 0) {
                wanted |= 1 << t;
            }
            return outcome;
        }

        private void readySend(int t, int sub, int n) {
            laid[0] = encode(t, 0, sub, n);
            System.arraycopy(units.words, Units.sendSpot(sub), laid, 1, n);
        }

        private int send(int t, int sub, int n) {
            readySend(t, sub, n);
            int command = laid[0];
            int turned = say(n + 1);
            if (!reaches(t, turned & 1)) {
                return noAnswer();
            }
            if (turned != 0) {
                units.settle(t, command, Units.ERROR_BIT);
                return noAnswer();
            }
            laid[0] = units.take(t, sub, n, command, Units.sendSpot(sub), 0);
            return heedService(t, answer(t, 1));
        }

        /** Lays ready what a terminal answers that is asked for words: how many words. */
        private int readyOut(int t, int sub, int n, int command) {
            boolean legal = units.isLegal(t, sub);
            laid[0] = units.settle(t, command, legal ? 0 : Units.ERROR_BIT);
            if (!legal || units.isBusy(t)) {
                return 1;
            }
            System.arraycopy(units.words, Units.spot(Units.OUT, t, sub), laid, 1, n);
            return n + 1;
        }

        private int get(int t, int sub, int n) {
            int command = encode(t, 1, sub, n);
            laid[0] = command;
            if (!reaches(t, say(1))) {
                return noAnswer();
            }
            int outcome = heedService(t, answer(t, readyOut(t, sub, n, command)));
            if (outcome == 0) {
                units.keep(t, sub, n);
            }
            return outcome;
        }

        private int pass(int t, int sub, int n, int to, int subTo) {
            int order = encode(to, 0, subTo, n);
            int command = encode(t, 1, sub, n);
            laid[0] = order;
            laid[1] = command;
            int turned = say(2);
            boolean listens = reaches(to, turned & 1);
            int outcome = reaches(t, turned & 2)
                    ? heedService(t, answer(t, readyOut(t, sub, n, command))) : noAnswer();
            if (outcome != 0) {
                if (listens) {
                    units.settle(to, order, outcome == 2 ? Units.ERROR_BIT : 0);
                }
                return outcome;
            }
            if (!listens) {
                return noAnswer();
            }
            laid[0] = units.take(to, subTo, n, order, Units.spot(Units.OUT, t, sub), 0);
            return heedService(to, answer(to, 1));
        }

        private int sendAll(int sub, int n) {
            readySend(31, sub, n);
            int command = laid[0];
            int turned = say(n + 1);
            for (int t = 0; t < FIRST; t++) {
                if (reaches(t, turned & 1)) {
                    if (turned != 0) {
                        units.settle(t, command, Units.ERROR_BIT);
                    } else {
                        units.take(t, sub, n, command, Units.sendSpot(sub), Units.ALL_BIT);
                    }
                }
            }
            return held ? 2 : 0;
        }

        private int mode(int t, int code) {
            int command = encode(t, code == 17 ? 0 : 1, 0, code);
            laid[0] = command;
            laid[1] = world.frame;
            int turned = say(code == 17 ? 2 : 1);
            if (!reaches(t, turned & 1)) {
                return noAnswer();
            }
            if (t == FIRST) {
                laid[0] = FIRST << 11 | Units.TAKES_BIT;
                return answer(t, 1);
            }
            if (turned != 0) {
                units.settle(t, command, Units.ERROR_BIT);
                return noAnswer();
            }
            int outcome = answer(t, readyMode(t, code, command));
            if (code == 2 || code == 18) {
                return isLost(outcome) ? outcome : 0;
            }
            if (code != 16) {
                return heedService(t, outcome);
            }
            if (!isLost(outcome)) {
                units.noteVector(t, laid[1]);
            }
            return outcome;
        }

        /** Does what a code tells and lays ready what is answered: how many words. */
        private int readyMode(int t, int code, int command) {
            int[] told = units.told;
            int o = t * Units.WIDTH;
            if (code == 2 || code == 18) {
                laid[0] = told[o + Units.LAST_STATUS];
                laid[1] = told[o + Units.LAST_COMMAND];
                return code == 2 ? 1 : 2;
            }
            int bits = units.obey(t, code, bus, world.frame);
            laid[0] = units.settle(t, command, bits);
            if (code == 16) {
                laid[1] = told[o + Units.VECTOR];
                told[o + Units.SERVICE] = 0;
                return 2;
            }
            laid[1] = told[o + Units.ERRORS] & 65535;
            return code == 19 ? 2 : 1;
        }
    }

    /** Frames, one by one, and what came of the lines in all since a restart. */
    private static final class Frames {
        private final World world;
        private final Trial trial;
        private int heir;
        int good;
        int bad;
        int longest;

        Frames(World world, Trial trial) {
            this.world = world;
            this.trial = trial;
        }

        void restart() {
            good = 0;
            bad = 0;
            longest = 0;
        }

        void play() {
            doEvents();
            world.units.drive(world.frame);
            world.frameTime = 0;
            if (world.units.hasPower(world.controller)) {
                world.silence = 0;
                trial.wanted = 0;
                heir = NONE;
                for (int i = 0; i < world.plan.size; i++) {
                    if (world.plan.isDue(i, world.frame)) {
                        playLine(i);
                    }
                }
                askWanted();
                if (heir != NONE) {
                    world.moveControl(heir);
                }
            } else {
                passInSilence();
            }
            longest = Math.max(longest, world.frameTime);
            world.frame++;
        }

        private void doEvents() {
            Script script = world.script;
            for (int i = 0; i < script.size; i++) {
                int o = i * Script.WIDTH;
                if (script.rows[o + Script.WHEN] == world.frame) {
                    int which = script.rows[o + Script.WHICH];
                    int unit = script.rows[o + Script.UNIT];
                    int value = script.rows[o + Script.VALUE];
                    if (which == Script.NOISE) {
                        world.wires.addNoise(unit, value);
                    } else {
                        world.units.tell(unit, which, value);
                    }
                }
            }
        }

        private void passInSilence() {
            world.silence++;
            for (int t = 0; t <= FIRST; t++) {
                if (world.silence >= t + 2 && world.couldLead(t)) {
                    world.moveControl(t);
                    world.silence = 0;
                    return;
                }
            }
        }

        private boolean hasTimeFor(int need) {
            return world.frameTime + need <= world.minor;
        }

        private void playLine(int i) {
            Plan plan = world.plan;
            int need = plan.told(i, Plan.TIME);
            int bus = plan.told(i, Plan.BUS);
            int tries = 0;
            int outcome = plan.touches(i, world.controller) ? 7 : hasTimeFor(need) ? 1 : 6;
            while (tries <= world.retries && (outcome == 1 || outcome == 2) && hasTimeFor(need)) {
                bus = tries == 0 ? bus : 1 - bus;
                outcome = trial.attempt(bus, plan.told(i, Plan.KIND), plan.told(i, Plan.UNIT),
                        plan.told(i, Plan.SUB), plan.told(i, Plan.NUMBER),
                        plan.told(i, Plan.UNIT_TO), plan.told(i, Plan.SUB_TO));
                world.frameTime += trial.time;
                tries++;
            }
            if (plan.told(i, Plan.KIND) == Plan.HAND && outcome == 0) {
                if (trial.takesControl()) {
                    heir = plan.told(i, Plan.UNIT);
                } else {
                    outcome = 5;
                }
            }
            plan.note(i, outcome);
            noteLine(i, tries, tries == 0 ? NONE : bus, outcome);
        }

        private void noteLine(int i, int tries, int bus, int outcome) {
            Ring journal = world.journal;
            int o = journal.claim();
            journal.cells[o] = world.frame;
            journal.cells[o + 1] = i;
            journal.cells[o + 2] = tries;
            journal.cells[o + 3] = bus;
            journal.cells[o + 4] = outcome;
            if (outcome == 0) {
                good++;
            } else {
                bad++;
            }
        }

        private void askWanted() {
            for (int t = 0; t < FIRST; t++) {
                if ((trial.wanted >> t & 1) != 0 && hasTimeFor(72)) {
                    trial.attempt(0, Plan.MODE, t, 0, 16, 0, 0);
                    world.frameTime += trial.time;
                }
            }
        }
    }

    /** The TAPE, and the texts that are read from it. */
    private static final class Reader {
        private static final int ROOM = 500;
        private static final String TABLE_WORDS = "send get pass all mode hand every at any on ";
        private static final String EVENT_WORDS =
                "power busy service system flag accept deaf babble noise at ";
        private static final int EVERY = 6;
        private static final int AT = 7;
        private static final int ANY = 8;
        private static final int ON = 9;
        private static final int EVENT_AT = 9;

        private static final int END = 0;
        private static final int WORD = 1;
        private static final int NUMBER = 2;
        private static final int CLOSE = 3;
        private static final int WRONG = 4;

        private final int[] tape = new int[ROOM];
        // Lines are read to here, so that a fault leaves what was told before as it was.
        final int[] rows = new int[Plan.ROOM * Plan.WIDTH];
        int length;
        int fault;
        int place = NONE;
        private String words = TABLE_WORDS;
        private int kind;
        private int value;
        private int start;
        private int next;

        boolean hasRoom() {
            return length + 20 <= ROOM;
        }

        void add(int four) {
            for (int shift = 24; shift >= 0 && length < ROOM; shift -= 8) {
                tape[length] = four >>> shift & 255;
                length++;
            }
        }

        int readTable() {
            open(TABLE_WORDS);
            int n = 0;
            for (int k = 0; k <= Plan.ROOM && fault == 0 && kind != END; k++) {
                if (beginsLine(kind == WORD && value <= Plan.HAND, n)) {
                    readWhat(n * Plan.WIDTH);
                    readWhen(n * Plan.WIDTH);
                    n++;
                }
            }
            length = 0;
            return fault == 0 ? n : NONE;
        }

        int readEvents() {
            open(EVENT_WORDS);
            int n = 0;
            for (int k = 0; k <= Plan.ROOM && fault == 0 && kind != END; k++) {
                if (beginsLine(kind == WORD && value == EVENT_AT, n)) {
                    readEvent(n * Script.WIDTH);
                    n++;
                }
            }
            length = 0;
            return fault == 0 ? n : NONE;
        }

        private void open(String known) {
            words = known;
            fault = 0;
            place = NONE;
            next = 0;
            step();
        }

        private boolean beginsLine(boolean can, int n) {
            if (!can) {
                fail(1, start);
            } else if (n >= Plan.ROOM) {
                fail(3, start);
            }
            return fault == 0;
        }

        private void readWhat(int o) {
            int told = value;
            for (int k = 0; k < Plan.WIDTH; k++) {
                rows[o + k] = 0;
            }
            rows[o + Plan.KIND] = told;
            step();
            if (told != Plan.ALL) {
                rows[o + Plan.UNIT] = number(0, told == Plan.HAND ? FIRST : FIRST - 1);
            }
            if (told < Plan.MODE) {
                rows[o + Plan.SUB] = number(1, 6);
            }
            if (told == Plan.PASS) {
                rows[o + Plan.UNIT_TO] = unitBut(rows[o + Plan.UNIT]);
                rows[o + Plan.SUB_TO] = number(1, 6);
            }
            if (told != Plan.HAND) {
                rows[o + Plan.NUMBER] = number(1, told == Plan.MODE ? 31 : 8);
            }
        }

        private void readWhen(int o) {
            expect(WORD, EVERY);
            rows[o + Plan.PERIOD] = period();
            if (kind == WORD && value == ANY) {
                rows[o + Plan.ANY] = 1;
                expect(WORD, ANY);
            } else {
                expect(WORD, AT);
                rows[o + Plan.PHASE] = number(0, rows[o + Plan.PERIOD] - 1);
            }
            expect(WORD, ON);
            rows[o + Plan.BUS] = number(0, 1);
            expect(CLOSE, 0);
        }

        private void readEvent(int o) {
            step();
            rows[o + Script.WHEN] = number(0, LAST_FRAME);
            int which = value;
            if (kind != WORD || which > Script.NOISE) {
                fail(1, start);
                return;
            }
            step();
            rows[o + Script.WHICH] = which;
            if (which == Script.NOISE) {
                rows[o + Script.UNIT] = number(0, 1);
                rows[o + Script.VALUE] = number(1, 999);
            } else {
                rows[o + Script.UNIT] = number(0, which == Units.POWER ? FIRST : FIRST - 1);
                rows[o + Script.VALUE] = number(0, which >= Units.DEAF ? 3 : 1);
            }
            expect(CLOSE, 0);
        }

        /** The text is read from left to right, so the first fault met is the one told. */
        private void fail(int code, int where) {
            if (fault == 0) {
                fault = code;
                place = where;
            }
        }

        private void expect(int wantedKind, int wantedValue) {
            if (fault != 0) {
                return;
            }
            if (kind != wantedKind || value != wantedValue) {
                fail(1, start);
            } else {
                step();
            }
        }

        private int number(int least, int most) {
            if (fault != 0) {
                return 0;
            }
            if (kind != NUMBER) {
                fail(1, start);
                return 0;
            }
            if (value < least || value > most) {
                fail(2, start);
                return 0;
            }
            int v = value;
            step();
            return v;
        }

        private int period() {
            int where = start;
            int p = number(1, 8);
            if ((p & (p - 1)) != 0) {
                fail(2, where);
            }
            return p;
        }

        private int unitBut(int unit) {
            int where = start;
            int t = number(0, FIRST - 1);
            if (t == unit) {
                fail(2, where);
            }
            return t;
        }

        /** Goes to the next token; one that is wrong is no fault till it is asked for. */
        private void step() {
            while (next < length && (tape[next] == 32 || tape[next] == 10)) {
                next++;
            }
            start = next;
            value = 0;
            if (next >= length) {
                kind = END;
            } else if (isLetter(tape[next])) {
                readWord();
            } else if (isDigit(tape[next])) {
                readNumber();
            } else {
                kind = tape[next] == ';' ? CLOSE : WRONG;
                next++;
            }
        }

        /** Each of the known words ends with a blank; a word's number is its place among them. */
        private void readWord() {
            while (next < length && isLetter(tape[next])) {
                next++;
            }
            kind = WRONG;
            int from = 0;
            for (int k = 0; k < words.length() && kind == WRONG; k++) {
                if (words.charAt(k) == ' ') {
                    if (k - from == next - start && stands(from)) {
                        kind = WORD;
                    } else {
                        value++;
                        from = k + 1;
                    }
                }
            }
        }

        private void readNumber() {
            while (next < length && isDigit(tape[next])) {
                // Held down, since a wrong number may have hundreds of digits.
                value = Math.min(99999, value * 10 + tape[next] - '0');
                next++;
            }
            kind = next - start <= 4 ? NUMBER : WRONG;
        }

        private boolean stands(int from) {
            for (int k = 0; k < next - start; k++) {
                if (words.charAt(from + k) != tape[start + k]) {
                    return false;
                }
            }
            return true;
        }

        private static boolean isLetter(int c) {
            return c >= 'a' && c <= 'z' || c >= 'A' && c <= 'Z';
        }

        private static boolean isDigit(int c) {
            return c >= '0' && c <= '9';
        }
    }

    /** SPREAD: sets of times as bits, so that all times of a set go on together. */
    private static final class Times {
        private static final int LONGS = 157;

        private final long[] now = new long[LONGS];
        private final long[] next = new long[LONGS];
        private final long[] open = new long[LONGS];
        private final long[] quiet = new long[LONGS];
        // No time is above MINOR, so no more longs than hold it are ever looked at.
        private int span;
        int crowded;
        int dearest;

        void gather(World world, int f) {
            Plan plan = world.plan;
            span = Math.min(LONGS, (world.minor >> 6) + 1);
            Arrays.fill(now, 0L);
            now[0] = 1L;
            crowded = NONE;
            dearest = 0;
            for (int i = 0; i < plan.size; i++) {
                if (plan.isDue(i, f)) {
                    dearest = Math.max(dearest, plan.told(i, Plan.TIME));
                    if (!plan.touches(i, world.controller)) {
                        goThrough(world, i);
                    }
                }
            }
        }

        private void goThrough(World world, int i) {
            int need = world.plan.told(i, Plan.TIME);
            boolean sure = world.plan.told(i, Plan.KIND) == Plan.ALL;
            int limit = world.minor - need;
            Arrays.fill(next, 0L);
            if (part(now, limit) && crowded == NONE) {
                crowded = i;
            }
            for (int k = 0; k <= world.retries; k++) {
                shift(open, need, next);
                if (sure) {
                    break;
                }
                Arrays.fill(quiet, 0L);
                shift(open, world.plan.quietTime(i), quiet);
                part(quiet, k < world.retries ? limit : NONE);
            }
            System.arraycopy(next, 0, now, 0, LONGS);
        }

        /** Times up to a limit are open for a try; those above stay as they are: is there one? */
        private boolean part(long[] from, int limit) {
            long above = 0L;
            for (int i = 0; i < span; i++) {
                long low = from[i] & upTo(limit - i * 64);
                open[i] = low;
                next[i] |= from[i] & ~low;
                above |= from[i] & ~low;
            }
            return above != 0L;
        }

        /** The bits 0 to n of a long. */
        private static long upTo(int n) {
            return n < 0 ? 0L : n >= 63 ? -1L : (2L << n) - 1L;
        }

        private void shift(long[] from, int by, long[] into) {
            int whole = by >> 6;
            int rest = by & 63;
            for (int i = 0; i + whole < span; i++) {
                into[i + whole] |= from[i] << rest;
                if (rest > 0 && i + whole + 1 < span) {
                    into[i + whole + 1] |= from[i] >>> (64 - rest);
                }
            }
        }

        int howMany(int limit) {
            int n = 0;
            for (int i = 0; i < span; i++) {
                n += Long.bitCount(now[i] & upTo(limit - i * 64));
            }
            return n;
        }

        private boolean has(int time) {
            return (now[time >> 6] >>> (time & 63) & 1L) != 0L;
        }

        int least(int minor) {
            int time = 0;
            while (time < minor && !has(time)) {
                time++;
            }
            return time;
        }

        int greatest(int minor) {
            int time = minor;
            while (time > 0 && !has(time)) {
                time--;
            }
            return time;
        }
    }
}
