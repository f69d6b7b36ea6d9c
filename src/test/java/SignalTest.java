import java.util.Random;

/** Signals and what becomes of them where they come (promises 5, 22), against the library. */
public final class SignalTest {
    public static void main(String[] args) {
        driven();
        smoothed();
        strange();
        random();
        Kit.finish();
    }

    private static float bits(CommandBus b, int t, int s) {
        return Float.intBitsToFloat(b.at(t, s, 0, 0) << 16 | b.at(t, s, 1, 0));
    }

    private static void driven() {
        CommandBus b = new CommandBus();
        b.signal(1, 2, -1000, 1);
        b.word(1, 2, 3, 77);
        b.frame(1);
        Kit.due("-1", Float.floatToIntBits(-1f), Float.floatToIntBits(bits(b, 1, 2)));
        Kit.due("-8", 65528, b.at(1, 2, 2, 0));
        Kit.due("the rest stays", 77, b.at(1, 2, 3, 0));
        b.terminal(1, 0, 0);
        b.frame(1);
        Kit.due("no power", Float.floatToIntBits(-1f), Float.floatToIntBits(bits(b, 1, 2)));
        b.terminal(1, 0, 1);
        b.frame(1);
        float x = -1f + 0.001f * 2f;
        Kit.due("frame 2", Float.floatToIntBits(x), Float.floatToIntBits(bits(b, 1, 2)));
        b.signal(1, 3, 999999, 999999);
        b.signal(1, 4, -999999, -999999);
        b.signal(1, 5, 0, -5);
        b.signal(1, 6, 4095999, 0);
        b.signal(2, 1, 3, 3);
        b.frame(1);
        Kit.due("cut", 31999, b.at(1, 3, 2, 0));
        Kit.due("cut", 65536 - 31999, b.at(1, 4, 2, 0));
        for (int k = 0; k < 40; k++) {
            b.frame(1);
        }
        Kit.due("held above", 32767, b.at(1, 3, 2, 0));
        Kit.due("held below", 32768, b.at(1, 4, 2, 0));
        Kit.due("not told", 0, b.at(1, 6, 0, 0));
    }

    private static void smoothed() {
        CommandBus b = new CommandBus();
        b.word(1, 1, 0, 0x4100);
        Kit.due("get", 0, b.once(0, 1, 1, 1, 2));
        Kit.due("no signal", 0, b.smooth(1, 1, 0));
        b.signal(1, 1, 0, 0);
        Kit.due("one word", 0, b.once(0, 1, 1, 1, 1));
        Kit.due("no smooth", 0, b.smooth(1, 1, 0));
        Kit.due("two", 0, b.once(0, 1, 1, 1, 2));
        Kit.due("8 / 4", Float.floatToIntBits(2f), b.smooth(1, 1, 0));
        Kit.due("2000", 2000, b.smooth(1, 1, 1));
        b.once(0, 1, 1, 1, 8);
        Kit.due("3.5", 3500, b.smooth(1, 1, 1));
        b.terminal(1, 1, 1);
        b.once(0, 1, 1, 1, 2);
        Kit.due("busy", 3500, b.smooth(1, 1, 1));
        b.terminal(1, 1, 0);
        b.noise(0, 4);
        b.once(0, 1, 1, 1, 2);
        Kit.due("turned", 3500, b.smooth(1, 1, 1));
        Kit.table(b, "pass 1 1 2 1 2 every 1 at 0 on 0;");
        b.frame(1);
        b.word(1, 1, 0, 0x4100);
        Kit.due("pass is no get", 3500, b.smooth(1, 1, 1));
        int was = 3500;
        b.word(1, 1, 0, 0);
        for (int k = 0; k < 60 && was > 0; k++) {
            b.once(0, 1, 1, 1, 2);
            int now = b.smooth(1, 1, 1);
            Kit.due("less", true, now < was || now < 2);
            was = now;
        }
        for (int k = 0; k < 10; k++) {
            b.once(0, 1, 1, 1, 2);
        }
        Kit.due("0 in the end", 0, b.smooth(1, 1, 0));
        Kit.due("what", 0, b.smooth(1, 1, 2));
        Kit.due("terminal", 0, b.smooth(8, 1, 0));
        Kit.due("terminal", 0, b.smooth(-1, 1, 0));
        Kit.due("sub", 0, b.smooth(1, 0, 0));
        Kit.due("sub", 0, b.smooth(1, 7, 0));
    }

    private static int after(int bits) {
        CommandBus b = new CommandBus();
        b.signal(5, 6, 1, 1);
        b.word(5, 6, 0, bits >>> 16);
        b.word(5, 6, 1, bits & 0xFFFF);
        b.once(1, 1, 5, 6, 2);
        return b.smooth(5, 6, 0);
    }

    private static void strange() {
        Kit.due("exponent 150", 0, after(150 << 23));
        Kit.due("exponent 149", Float.floatToIntBits(Float.intBitsToFloat(149 << 23 | 5) * 0.25f), after(149 << 23 | 5));
        Kit.due("exponent 64", 0, after(64 << 23));
        Kit.due("infinity", 0, after(255 << 23));
        Kit.due("not a number", 0, after(255 << 23 | 1));
        Kit.due("less than nothing", 0, after(1 << 31));
        Kit.due("0.004", Float.floatToIntBits(0.004f * 0.25f), after(Float.floatToIntBits(0.004f)));
        Kit.due("0.00399", 0, after(Float.floatToIntBits(0.00399f)));
        Kit.due("-0.004", Float.floatToIntBits(-0.001f), after(Float.floatToIntBits(-0.004f)));
        Kit.due("-0.00399", 0, after(Float.floatToIntBits(-0.00399f)));
        Kit.due("-5", Float.floatToIntBits(-1.25f), after(Float.floatToIntBits(-5f)));
        tiny(63 << 7, 2000);
        tiny(64 << 7, 1500);
        tiny(1 << 15 | 63 << 7, 2000);
        tiny(1 << 15 | 64 << 7, 1500);
        tiny(1 << 15, 2000);
        tiny(0, 1500);
        tiny(150 << 7, 2000);
        CommandBus b = new CommandBus();
        b.signal(5, 6, 1, 1);
        b.word(5, 6, 0, 149 << 7 | 127);
        for (int k = 0; k < 20; k++) {
            b.once(0, 1, 5, 6, 2);
        }
        Kit.due("held", Integer.MAX_VALUE, b.smooth(5, 6, 1));
        b.word(5, 6, 0, 1 << 15 | 149 << 7 | 127);
        for (int k = 0; k < 20; k++) {
            b.once(0, 1, 5, 6, 2);
        }
        Kit.due("held", Integer.MIN_VALUE, b.smooth(5, 6, 1));
    }

    /** What is too strange leaves a mean of 2 as it was; what is next to nothing draws it down. */
    private static void tiny(int high, int thousandths) {
        CommandBus b = new CommandBus();
        b.signal(5, 6, 1, 1);
        b.word(5, 6, 0, 0x4100);
        b.once(0, 1, 5, 6, 2);
        b.word(5, 6, 0, high);
        b.once(0, 1, 5, 6, 2);
        Kit.due("mean after " + high, thousandths, b.smooth(5, 6, 1));
    }

    private static void random() {
        Random random = new Random(7);
        for (int run = 0; run < 300; run++) {
            CommandBus b = new CommandBus();
            int base = random.nextInt(1999999) - 999999;
            int slope = (random.nextInt(1999999) - 999999) / (1 << random.nextInt(20));
            b.signal(0, 1, base, slope);
            float mean = 0f;
            for (int k = 0; k < 15; k++) {
                int frame = b.look(2);
                b.frame(1);
                float x = (float) slope / 1000f * (float) frame + (float) base / 1000f;
                Kit.due("bits", Float.floatToIntBits(x), Float.floatToIntBits(bits(b, 0, 1)));
                b.once(0, 1, 0, 1, 2);
                int exponent = Float.floatToIntBits(x) >>> 23 & 255;
                if (x == 0f || exponent >= 64 && exponent <= 149) {
                    mean = mean + (x - mean) * 0.25f;
                    mean = mean > -0.001f && mean < 0.001f ? 0f : mean;
                }
                Kit.due("mean", Float.floatToIntBits(mean), b.smooth(0, 1, 0));
                Kit.due("thousands", (int) (mean * 1000f), b.smooth(0, 1, 1));
                b.frame(1 + random.nextInt(60));
            }
        }
    }
}
