/** SIGNALS and SMOOTH at their bounds: -32768 .. 32767, exponents 64 .. 149, 0.001, 2 words (promises 5, 7, 22). */
public final class FractionTest {
    public static void main(String[] args) {
        noneAtFirst();
        heldToSixteenBits();
        cut();
        zero();
        boundsOfBaseAndSlope();
        withPower();
        powerOfEach();
        toldAnew();
        exponents();
        zeroOfAllBits();
        thousandth();
        twoWordsAtLeast();
        outcomeZero();
        signalTold();
        passNot();
        inFramesToo();
        heldToInt();
        Kit.finish();
    }

    private static int bits(CommandBus b, int t, int sub) {
        for (int i = 0; i < 3; i++) {
            Kit.due("16 bits", true, b.at(t, sub, i, 0) >= 0 && b.at(t, sub, i, 0) <= 65535);
        }
        return b.at(t, sub, 0, 0) << 16 | b.at(t, sub, 1, 0);
    }

    /** "(ints; thousandths; none at first)": what was told by word() stays. */
    private static void noneAtFirst() {
        CommandBus b = new CommandBus();
        for (int i = 0; i < 3; i++) {
            b.word(2, 3, i, 11 + i);
        }
        b.signal(2, 4, 1000, 0);
        b.frame(2);
        for (int i = 0; i < 3; i++) {
            Kit.due("stays", 11 + i, b.at(2, 3, i, 0));
        }
        Kit.due("told of another", Float.floatToIntBits(1f), bits(b, 2, 4));
        Kit.due("not till a frame", 0, told(1000, 0, 0).at(0, 1, 2, 0));
    }

    /** A signal, played till its value is that of a FRAME. */
    private static CommandBus told(int base, int slope, int frames) {
        CommandBus b = new CommandBus();
        b.signal(0, 1, base, slope);
        Scenes.frames(b, frames);
        return b;
    }

    /** "x divided by 0.125, cut to an int, held to -32768 .. 32767, its 16 bits" */
    private static void heldToSixteenBits() {
        int[][] above = {{95750, 32766}, {95874, 32766}, {95875, 32767}, {95999, 32767}, {96000, 32767}, {96125, 32767},
            {999999, 32767}};
        for (int[] row : above) {
            CommandBus b = told(row[0], 500000, 9);
            Kit.due("4000 and " + row[0], row[1], b.at(0, 1, 2, 0));
            Kit.due("x itself is not held", Float.floatToIntBits(4000f + row[0] / 1000f), bits(b, 0, 1));
        }
        int[][] below = {{-95750, -32766}, {-95875, -32767}, {-95999, -32767}, {-96000, -32768}, {-96124, -32768},
            {-96125, -32768}, {-96250, -32768}, {-999999, -32768}};
        for (int[] row : below) {
            CommandBus b = told(row[0], -500000, 9);
            Kit.due("-4000 and " + row[0], row[1] & 0xFFFF, b.at(0, 1, 2, 0));
            Kit.due("x itself is not held", Float.floatToIntBits(-4000f + row[0] / 1000f), bits(b, 0, 1));
        }
    }

    /** "cut to an int": towards 0 on both sides. */
    private static void cut() {
        int[][] rows = {{124, 0}, {125, 1}, {126, 1}, {249, 1}, {250, 2}, {-124, 0}, {-125, -1}, {-126, -1}, {-249, -1}, {-250, -2},
            {1, 0}, {-1, 0}, {999999, 7999}, {-999999, -7999}};
        for (int[] row : rows) {
            CommandBus b = told(row[0], 0, 1);
            Kit.due("thousandths " + row[0], row[1] & 0xFFFF, b.at(0, 1, 2, 0));
            Kit.due("bits of " + row[0], Float.floatToIntBits(row[0] / 1000f), bits(b, 0, 1));
        }
    }

    /** 0 has no bits, though a SLOPE below 0 times FRAME 0 is a 0 below 0. */
    private static void zero() {
        for (int slope : new int[] {0, 5, -5, -999999}) {
            CommandBus b = told(0, slope, 1);
            Kit.due("bits of 0 with slope " + slope, 0, bits(b, 0, 1));
            Kit.due("eighths", 0, b.at(0, 1, 2, 0));
        }
        CommandBus b = told(-10, 5, 3);
        Kit.due("-0.010 and 2 times 0.005", Float.floatToIntBits(-10f / 1000f + 5f / 1000f * 2f), bits(b, 0, 1));
    }

    /** BASE, SLOPE -999999 .. 999999, FRAME up to 9998. */
    private static void boundsOfBaseAndSlope() {
        int[] most = {-999999, 999999, -1, 1, 0, 333333};
        for (int base : most) {
            for (int slope : most) {
                for (int frame : new int[] {0, 1, 999, 9998}) {
                    float way = (float) slope / 1000f;
                    way = way * (float) frame;
                    float x = (float) base / 1000f;
                    x = x + way;
                    CommandBus b = told(base, slope, frame + 1);
                    Kit.due("bits of " + base + " " + slope + " " + frame, Float.floatToRawIntBits(x), bits(b, 0, 1));
                }
            }
        }
    }

    /** "with POWER": without it, the words stay; who controls has signals, too. */
    private static void withPower() {
        CommandBus b = told(1000, 1000, 1);
        b.terminal(0, 0, 0);
        b.frame(3);
        Kit.due("stays", Float.floatToIntBits(1f), bits(b, 0, 1));
        b.terminal(0, 0, 1);
        b.frame(1);
        Kit.due("as of its frame", Float.floatToIntBits(5f), bits(b, 0, 1));
        b.terminal(0, 5, 1);
        Kit.table(b, "hand 0 every 1 at 0 on 0;");
        b.frame(2);
        Kit.due("0 controls", 0, b.look(3));
        Kit.due("and goes on", Float.floatToIntBits(7f), bits(b, 0, 1));
        CommandBus c = new CommandBus();
        c.signal(0, 1, 1000, 1000);
        Kit.events(c, "at 1 power 0 0;at 2 power 0 1;");
        int[] due = {1, 1, 3};
        for (int f = 0; f < 3; f++) {
            c.frame(1);
            Kit.due("events come ahead of it", Float.floatToIntBits((float) due[f]), bits(c, 0, 1));
        }
    }

    /** The POWER of its own TERMINAL counts, of each of the 48. */
    private static void powerOfEach() {
        for (int t = 0; t < 8; t++) {
            CommandBus b = new CommandBus();
            for (int u = 0; u < 8; u++) {
                b.terminal(u, 0, u == t ? 0 : 1);
                for (int s = 1; s <= 6; s++) {
                    b.signal(u, s, 1000, 0);
                }
            }
            b.frame(1);
            for (int u = 0; u < 8; u++) {
                for (int s = 1; s <= 6; s++) {
                    Kit.due("signal of " + u + " without power of " + t, u == t ? 0 : 8, b.at(u, s, 2, 0));
                }
            }
        }
    }

    /** The latest BASE, SLOPE count; words 3 .. 7 are not touched, words 0 .. 2 are written anew. */
    private static void toldAnew() {
        CommandBus b = told(1000, 1000, 1);
        b.signal(0, 1, 8000, 0);
        Kit.due("not till a frame", Float.floatToIntBits(1f), bits(b, 0, 1));
        for (int i = 0; i < 8; i++) {
            b.word(0, 1, i, 50 + i);
        }
        b.frame(1);
        Kit.due("anew", Float.floatToIntBits(8f), bits(b, 0, 1));
        Kit.due("eighths", 64, b.at(0, 1, 2, 0));
        for (int i = 3; i < 8; i++) {
            Kit.due("stays", 50 + i, b.at(0, 1, i, 0));
        }
    }

    /** An object whose SMOOTH of 5, 6 is 2, then a GET of these bits. */
    private static CommandBus drawn(int bits) {
        CommandBus b = new CommandBus();
        b.signal(5, 6, 1, 1);
        got(b, Float.floatToIntBits(8f), 2);
        Kit.due("2", Float.floatToIntBits(2f), b.smooth(5, 6, 0));
        got(b, bits, 2);
        return b;
    }

    private static int got(CommandBus b, int bits, int n) {
        b.word(5, 6, 0, bits >>> 16);
        b.word(5, 6, 1, bits & 0xFFFF);
        return b.once(0, 1, 5, 6, n);
    }

    private static void drawnTo(int bits, boolean counts) {
        float x = Float.intBitsToFloat(bits);
        float due = counts ? 2f + (x - 2f) * 0.25f : 2f;
        Kit.due("smooth behind " + Integer.toHexString(bits), Float.floatToIntBits(due), drawn(bits).smooth(5, 6, 0));
    }

    /** "are bits 30 .. 23 64 .. 149" */
    private static void exponents() {
        for (int sign = 0; sign < 2; sign++) {
            int s = sign << 31;
            for (int low : new int[] {0, 1, 0x400000, 0x7FFFFF}) {
                for (int e : new int[] {1, 62, 63, 150, 151, 200, 254}) {
                    drawnTo(s | e << 23 | low, false);
                }
                for (int e : new int[] {64, 65, 100, 127, 140, 148, 149}) {
                    drawnTo(s | e << 23 | low, true);
                }
                Kit.due("255", Float.floatToIntBits(2f), drawn(s | 255 << 23 | low).smooth(5, 6, 0));
            }
        }
    }

    /** "is it 0 (all bits)": what has exponent 0, and any other bit, is not. */
    private static void zeroOfAllBits() {
        drawnTo(0, true);
        Kit.due("below 0", Float.floatToIntBits(2f), drawn(1 << 31).smooth(5, 6, 0));
        for (int low : new int[] {1, 2, 0x8000, 0x10000, 0x7FFFFF}) {
            Kit.due("no exponent", Float.floatToIntBits(2f), drawn(low).smooth(5, 6, 0));
            Kit.due("no exponent", Float.floatToIntBits(2f), drawn(1 << 31 | low).smooth(5, 6, 0));
        }
        CommandBus b = new CommandBus();
        b.signal(5, 6, 1, 1);
        got(b, 0, 2);
        Kit.due("0 at first, and by 0", 0, b.smooth(5, 6, 0));
    }

    /** "is that above -0.001 and below 0.001 (as such), it is 0": 0.001 itself is not below it. */
    private static void thousandth() {
        float edge = 0.004f;
        Kit.due("a quarter", Float.floatToIntBits(0.001f), Float.floatToIntBits(edge * 0.25f));
        float[] stays = {edge, Math.nextUp(edge), -edge, -Math.nextUp(edge), 0.0041f, 1f, -1f};
        for (float x : stays) {
            CommandBus b = new CommandBus();
            b.signal(5, 6, 1, 1);
            got(b, Float.floatToIntBits(x), 2);
            Kit.due("stays " + x, Float.floatToIntBits(x * 0.25f), b.smooth(5, 6, 0));
        }
        float[] goes = {Math.nextDown(edge), -Math.nextDown(edge), 0.003f, -0.003f, 1e-10f, -1e-10f};
        for (float x : goes) {
            CommandBus b = new CommandBus();
            b.signal(5, 6, 1, 1);
            got(b, Float.floatToIntBits(x), 2);
            Kit.due("is 0 behind " + x, 0, b.smooth(5, 6, 0));
        }
        CommandBus b = new CommandBus();
        b.signal(5, 6, 1, 1);
        got(b, Float.floatToIntBits(edge), 2);
        Kit.due("1", 1, b.smooth(5, 6, 1));
        got(b, 0, 2);
        Kit.due("three quarters of it are 0", 0, b.smooth(5, 6, 0));
        got(b, Float.floatToIntBits(-edge), 2);
        Kit.due("-1", -1, b.smooth(5, 6, 1));
        got(b, Float.floatToIntBits(-0.006f), 2);
        float mean = -0.001f;
        mean = mean + (-0.006f - mean) * 0.25f;
        Kit.due("cut towards 0", (int) (mean * 1000f), b.smooth(5, 6, 1));
        Kit.due("bits", Float.floatToIntBits(mean), b.smooth(5, 6, 0));
    }

    /** "of 2 WORDS at least" */
    private static void twoWordsAtLeast() {
        for (int n = 1; n <= 8; n++) {
            CommandBus b = new CommandBus();
            b.signal(5, 6, 1, 1);
            Kit.due("got", 0, got(b, Float.floatToIntBits(8f), n));
            Kit.due("smooth of " + n, n >= 2 ? 2000 : 0, b.smooth(5, 6, 1));
        }
    }

    /** "A GET .. with OUTCOME 0" */
    private static void outcomeZero() {
        for (int outcome = 0; outcome <= 4; outcome++) {
            CommandBus b = new CommandBus();
            b.signal(5, 6, 1, 1);
            if (outcome == 1) {
                b.noise(0, 1);
            } else if (outcome == 2) {
                b.noise(0, 4);
            } else if (outcome == 3) {
                b.terminal(5, 8, 62);
            } else if (outcome == 4) {
                b.terminal(5, 1, 1);
            }
            Kit.due("outcome", outcome, got(b, Float.floatToIntBits(8f), 2));
            Kit.due("smooth behind " + outcome, outcome == 0 ? 2000 : 0, b.smooth(5, 6, 1));
            Kit.due("got behind " + outcome, outcome == 0 ? 0x4100 : 0, b.at(5, 6, 0, 2));
        }
    }

    /** "from a SUB with a SIGNAL told" */
    private static void signalTold() {
        CommandBus b = new CommandBus();
        b.signal(5, 5, 1, 1);
        b.signal(4, 6, 1, 1);
        got(b, Float.floatToIntBits(8f), 2);
        Kit.due("none told", 0, b.smooth(5, 6, 0));
        b.signal(5, 6, 0, 0);
        got(b, Float.floatToIntBits(8f), 2);
        Kit.due("told, if all 0", 2000, b.smooth(5, 6, 1));
        Kit.due("not of others", 0, b.smooth(5, 5, 0) + b.smooth(4, 6, 0));
    }

    /** "A GET (PASS not)" */
    private static void passNot() {
        CommandBus b = new CommandBus();
        b.signal(5, 6, 8000, 0);
        Kit.table(b, "pass 5 6 4 6 2 every 1 at 0 on 0;");
        Kit.due("passed", 3, b.frame(3));
        Kit.due("no smooth", 0, b.smooth(5, 6, 0));
        Kit.due("nor there", 0, b.smooth(4, 6, 0));
    }

    /** "(by once(), too)": by LINES first of all, each in its FRAME. */
    private static void inFramesToo() {
        CommandBus b = new CommandBus();
        b.signal(5, 6, 8000, 0);
        Kit.table(b, "get 5 6 2 every 2 at 1 on 0;get 5 6 1 every 2 at 0 on 0;");
        b.frame(1);
        Kit.due("one word", 0, b.smooth(5, 6, 0));
        b.frame(1);
        Kit.due("two", 2000, b.smooth(5, 6, 1));
        b.frame(2);
        Kit.due("again", 3500, b.smooth(5, 6, 1));
        b.noise(0, 1 + 3);
        b.frame(2);
        Kit.due("turned, but tried again", 4625, b.smooth(5, 6, 1));
    }

    /** "it times 1000, cut to an int, held to -2147483648 .. 2147483647" */
    private static void heldToInt() {
        float most = Float.intBitsToFloat(149 << 23 | 0x7FFFFF);
        for (int sign = -1; sign <= 1; sign += 2) {
            for (int steps = 1; steps <= 12; steps++) {
                CommandBus b = new CommandBus();
                b.signal(5, 6, 1, 1);
                float mean = 0f;
                for (int k = 0; k < steps; k++) {
                    float x = sign * (k == 1 ? 2298478.25f : most);
                    got(b, Float.floatToIntBits(x), 2);
                    mean = mean + (x - mean) * 0.25f;
                }
                Kit.due("bits", Float.floatToIntBits(mean), b.smooth(5, 6, 0));
                Kit.due("thousandths of " + mean, (int) (mean * 1000f), b.smooth(5, 6, 1));
                if (steps >= 3) {
                    Kit.due("held", sign < 0 ? Integer.MIN_VALUE : Integer.MAX_VALUE, b.smooth(5, 6, 1));
                } else {
                    Kit.due("not held yet", true, Math.abs((long) b.smooth(5, 6, 1)) < Integer.MAX_VALUE);
                }
            }
        }
    }
}
