import java.util.TreeSet;

/** LOAD, PHASES, BEST with four and with more LINES with any, SPREAD (promises 16 to 19). */
public final class LoadTest {
    public static void main(String[] args) {
        due();
        empty();
        ofSeveralTheLeast();
        fixedCountWhereverTheyStand();
        fourAndFive();
        bestIsLeast();
        bestAmongFixed();
        bestOfTwentyFour();
        spreadOfOne();
        spreadJustAboveMinor();
        spreadOfAll();
        spreadOfTheController();
        spreadGreatestBehind();
        spreadNobodyWanted();
        fullTable();
        Kit.finish();
    }

    /** "A LINE is due in FRAMES f with f modulo P as Q." */
    private static void due() {
        for (int p = 1; p <= 8; p *= 2) {
            for (int q = 0; q < p; q++) {
                CommandBus b = new CommandBus();
                Kit.table(b, "all 1 1 every " + p + " at " + q + " on 0;");
                for (int f = 0; f < 8; f++) {
                    boolean is = f % p == q;
                    Kit.due("due", is ? 1 : 0, b.load(f, 2));
                    Kit.due("load", is ? 44 : 0, b.load(f, 0));
                }
                for (int f = 0; f < 18; f++) {
                    Kit.due("frame " + f + " every " + p + " at " + q, f % p == q ? 1 : 0, b.frame(1));
                }
            }
        }
    }

    /** Without LINES: no LOAD, BEST 0, all of MINOR left. */
    private static void empty() {
        CommandBus b = new CommandBus();
        Kit.due("greatest", 0, b.fits(0));
        Kit.due("best", 0, b.fits(1));
        Kit.due("none above", -1, b.fits(2));
        Kit.due("left", 2000, b.fits(3));
        for (int f = 0; f < 8; f++) {
            Kit.due("load", 0, b.load(f, 0) + b.load(f, 1) + b.load(f, 2));
            spread(b, f, 1, 0, 0, -1, 1);
        }
        b.set(0, 100);
        spread(b, 0, 1, 0, 0, -1, 1);
    }

    private static void spread(CommandBus b, int f, int... answers) {
        for (int what = 0; what < 5; what++) {
            Kit.due("spread " + f + " " + what, answers[what], b.spread(f, what));
        }
    }

    /** "is least, of several the least" */
    private static void ofSeveralTheLeast() {
        for (int p = 1; p <= 8; p *= 2) {
            CommandBus b = new CommandBus();
            Kit.table(b, ("all 1 1 every " + p + " any on 0;").repeat(10));
            for (int i = 0; i < 10; i++) {
                Kit.due("line " + i + " every " + p, i % p, b.line(i, 2));
            }
        }
        CommandBus b = new CommandBus();
        Kit.table(b, "all 1 1 every 2 at 0 on 0;all 1 8 every 8 at 5 on 0;all 1 1 every 2 any on 0;");
        Kit.due("the greatest of its frames counts, not their sum", 0, b.line(2, 2));
        Kit.table(b, "all 1 8 every 8 at 0 on 0;all 1 7 every 8 at 1 on 0;all 1 7 every 8 at 3 on 0;all 1 1 every 2 any on 0;");
        Kit.due("the odd ones", 1, b.line(3, 2));
        Kit.table(b, "all 1 8 every 8 at 0 on 0;all 1 8 every 8 at 7 on 0;all 1 1 every 2 any on 0;");
        Kit.due("alike: the even ones", 0, b.line(2, 2));
    }

    /** "of all LINES with at, and of those with any ahead of it": at counts wherever it stands, any only ahead. */
    private static void fixedCountWhereverTheyStand() {
        CommandBus b = new CommandBus();
        Kit.table(b, "all 1 1 every 2 any on 0;all 1 8 every 8 any on 0;all 1 8 every 2 at 0 on 0;");
        Kit.due("away from what stands behind it", 1, b.line(0, 2));
        Kit.due("of the odd ones with the lesser load: none is, so the first", 1, b.line(1, 2));
        Kit.due("as told", 0, b.line(2, 2));
    }

    /** "(more than four: NONE)" */
    private static void fourAndFive() {
        String free = "all 1 1 every 8 any on 0;";
        String fixed = "all 1 1 every 8 at 0 on 0;";
        for (int n = 0; n <= 8; n++) {
            CommandBus b = new CommandBus();
            Kit.table(b, free.repeat(n) + fixed);
            Kit.due("best of " + n, n <= 4 ? 44 : -1, b.fits(1));
            Kit.due("greatest of " + n, n <= 7 ? 44 : 88, b.fits(0));
        }
        CommandBus b = new CommandBus();
        Kit.table(b, free.repeat(4) + fixed.repeat(15));
        Kit.due("four among many", 15 * 44, b.fits(1));
        Kit.table(b, fixed.repeat(14) + free.repeat(5));
        Kit.due("five among many", -1, b.fits(1));
        Kit.table(b, "all 1 1 every 1 any on 0;".repeat(4));
        Kit.due("nothing to choose", 4 * 44, b.fits(1));
        Kit.table(b, "all 1 1 every 1 any on 0;".repeat(5));
        Kit.due("five, choice or not", -1, b.fits(1));
        Kit.table(b, "");
        Kit.due("none again", 0, b.fits(1));
    }

    /** "BEST: the least that the greatest LOAD could be by any PHASES of these": by trying them all. */
    private static void bestIsLeast() {
        int[] seeds = {3, 14, 15, 92, 65, 35, 89, 79, 32, 38, 46, 26, 43, 38, 32, 79, 50, 28, 84, 19};
        for (int run = 0; run < 60; run++) {
            int[] p = new int[4];
            int[] n = new int[4];
            StringBuilder text = new StringBuilder();
            for (int i = 0; i < 4; i++) {
                int seed = seeds[(run * 7 + i * 3) % 20] + run * i;
                p[i] = 1 << seed % 4;
                n[i] = 1 + seed / 4 % 8;
                text.append("all 1 ").append(n[i]).append(" every ").append(p[i]).append(" any on 0;");
            }
            int least = Integer.MAX_VALUE;
            for (int choice = 0; choice < p[0] * p[1] * p[2] * p[3]; choice++) {
                int[] loads = new int[8];
                int rest = choice;
                int most = 0;
                for (int i = 0; i < 4; i++) {
                    for (int f = rest % p[i]; f < 8; f += p[i]) {
                        loads[f] += 24 + 20 * n[i];
                        most = Math.max(most, loads[f]);
                    }
                    rest /= p[i];
                }
                least = Math.min(least, most);
            }
            CommandBus b = new CommandBus();
            Kit.table(b, text.toString());
            Kit.due("best of " + text, least, b.fits(1));
            Kit.due("never more than the greatest", true, b.fits(0) >= b.fits(1));
        }
    }

    /** LINES with at stay where they are, wherever they stand among those with any. */
    private static void bestAmongFixed() {
        for (int run = 0; run < 120; run++) {
            int free = run % 5;
            int[] p = new int[8];
            int[] n = new int[8];
            int[] q = new int[8];
            StringBuilder text = new StringBuilder();
            for (int i = 0; i < 8; i++) {
                int seed = (run * 37 + i * 101 + run * i * 13) % 997;
                p[i] = 1 << seed % 4;
                n[i] = 1 + seed / 4 % 8;
                // Which four of the eight are free goes round with the runs.
                q[i] = (i * 3 + run) % 8 < free ? -1 : seed / 7 % p[i];
                text.append("all1 ").append(n[i]).append("every").append(p[i]);
                text.append(q[i] < 0 ? "any " : "at" + q[i]).append("on0;");
            }
            CommandBus b = new CommandBus();
            Kit.due("told", 8, Kit.table(b, text.toString()));
            Kit.due("best of " + text, least(p, n, q, 0, new int[8]), b.fits(1));
            Kit.due("as it was", true, b.fits(0) >= b.fits(1));
        }
    }

    private static int least(int[] p, int[] n, int[] q, int i, int[] loads) {
        if (i == p.length) {
            int most = 0;
            for (int load : loads) {
                most = Math.max(most, load);
            }
            return most;
        }
        int least = Integer.MAX_VALUE;
        for (int phase = 0; phase < p[i]; phase++) {
            if (q[i] < 0 || q[i] == phase) {
                int[] more = loads.clone();
                for (int f = phase; f < 8; f += p[i]) {
                    more[f] += 24 + 20 * n[i];
                }
                least = Math.min(least, least(p, n, q, i + 1, more));
            }
        }
        return least;
    }

    /** A full TABLE: those with any stand at its end, at its beginning, in its midst, or nowhere. */
    private static void bestOfTwentyFour() {
        String fixed = "hand1every1at0on0;";
        String free = "hand1every8any on0;";
        for (int ahead = 0; ahead <= 20; ahead += 4) {
            CommandBus b = new CommandBus();
            Kit.due("24", 24, Kit.table(b, fixed.repeat(ahead) + free.repeat(4) + fixed.repeat(20 - ahead)));
            Kit.due("best", 21 * 52, b.fits(1));
            Kit.due("greatest", 21 * 52, b.fits(0));
            Kit.table(b, fixed.repeat(ahead) + "hand1every2any on0;".repeat(4) + fixed.repeat(20 - ahead));
            Kit.due("best", 22 * 52, b.fits(1));
        }
        CommandBus b = new CommandBus();
        Kit.table(b, fixed.repeat(24));
        Kit.due("none free", 24 * 52, b.fits(1));
        Kit.table(b, fixed.repeat(19) + free.repeat(5));
        Kit.due("five free", -1, b.fits(1));
        // The first goes where it is in the way of those behind it, so BEST is less than what PHASES come to.
        Kit.table(b, fixed.repeat(20) + "mode1 1every8any on0;mode1 1every4any on0;mode1 1every2any on0;mode1 16every1any on0;");
        Kit.due("phases", 20 * 52 + 72 + 52 * 2, b.fits(0));
        Kit.due("best", 20 * 52 + 72 + 52, b.fits(1));
    }

    /** One LINE, every RETRIES: TIME or QUIET, again and again. */
    private static void spreadOfOne() {
        for (int r = 0; r <= 3; r++) {
            for (int n = 1; n <= 8; n++) {
                one("send 1 1 " + n, 52 + 20 * n, 38 + 20 * n, r);
                one("get 1 1 " + n, 52 + 20 * n, 38, r);
                one("pass 1 1 2 1 " + n, 100 + 20 * n, 58, r);
            }
            for (int c = 1; c < 32; c++) {
                one("mode 1 " + c, c >= 16 && c <= 19 ? 72 : 52, c == 17 ? 58 : 38, r);
            }
            one("hand 1", 52, 38, r);
        }
    }

    private static void one(String line, int time, int quiet, int retries) {
        CommandBus b = new CommandBus();
        b.set(1, retries);
        Kit.table(b, line + " every 1 at 0 on 0;");
        TreeSet<Integer> times = new TreeSet<>();
        for (int k = 0; k <= retries; k++) {
            times.add(k * quiet + time);
        }
        times.add((retries + 1) * quiet);
        Kit.due("how many of " + line, times.size(), b.spread(3, 0));
        Kit.due("least of " + line, times.first(), b.spread(3, 1));
        Kit.due("greatest of " + line, times.last(), b.spread(3, 2));
        Kit.due("room for all of " + line, -1, b.spread(3, 3));
        Kit.due("behind all of " + line, times.size(), b.spread(3, 4));
    }

    /** "is made again as in a FRAME": each try if its TIME is not too much then; OUTCOME 6 likewise. */
    private static void spreadJustAboveMinor() {
        CommandBus b = new CommandBus();
        Kit.table(b, "send 1 1 1 every 1 at 0 on 0;mode 1 1 every 2 at 1 on 0;");
        // Tries of 72 or 58: {72, 130, 116}.
        b.set(0, 130);
        spread(b, 0, 3, 72, 130, -1, 0);
        b.set(0, 129);
        spread(b, 0, 2, 58, 72, -1, 0);
        b.set(0, 130 + 52);
        // Then 52 or 38, and again: 72: 124, 162, 148; 130: 182, 168 (206 would be too much); 116: 168, 154.
        spread(b, 1, 6, 124, 182, -1, 0);
        b.set(0, 130 + 51);
        // 130 has no time for the second LINE; 116 has: 168, or 154 (206 would be too much).
        spread(b, 1, 6, 124, 168, 1, 0);
        b.set(0, 100);
        // 72 and 52 are too much; 58 and 52, too.
        spread(b, 1, 2, 58, 72, 1, 0);
        Kit.table(b, "pass 1 1 2 1 1 every 1 at 0 on 0;");
        spread(b, 0, 1, 0, 0, 0, 0);
        b.set(0, 119);
        spread(b, 0, 1, 0, 0, 0, 0);
        b.set(0, 120);
        spread(b, 0, 2, 58, 120, -1, 0);
    }

    /** "of all always": one time alone. */
    private static void spreadOfAll() {
        CommandBus b = new CommandBus();
        b.set(1, 3);
        Kit.table(b, "all 1 8 every 1 at 0 on 0;all 1 8 every 1 at 0 on 0;");
        spread(b, 0, 1, 368, 368, -1, 1);
        b.set(0, 368);
        spread(b, 0, 1, 368, 368, -1, 0);
        b.set(0, 367);
        spread(b, 0, 1, 184, 184, 1, 0);
        b.set(0, 183);
        spread(b, 0, 1, 0, 0, 0, 0);
    }

    /** "(MINOR, RETRIES, CONTROLLER as now: LINES to it, from it take nothing.)" */
    private static void spreadOfTheController() {
        CommandBus b = new CommandBus();
        b.terminal(5, 5, 1);
        String lines = "pass 5 1 2 1 8 every 1 at 0 on 0;pass 2 1 5 1 8 every 1 at 0 on 0;hand 5 every 1 at 0 on 0;"
            + "hand 8 every 1 at 0 on 0;mode 5 1 every 1 at 0 on 0;";
        Kit.table(b, lines);
        b.set(1, 0);
        Kit.due("first controls: hand 8 takes nothing", 58 + 58 + 38 + 38, b.spread(0, 1));
        b.frame(1);
        Kit.due("5 controls", 5, b.look(3));
        spread(b, 0, 2, 38, 52, -1, 2);
        b.set(0, 260 + 51);
        spread(b, 0, 2, 38, 52, -1, 1);
        b.set(0, 100);
        spread(b, 0, 2, 38, 52, -1, 0);
    }

    /** "the greatest TIME of all LINES due in it (0 if none are) could come behind (together not above MINOR)" */
    private static void spreadGreatestBehind() {
        CommandBus b = new CommandBus();
        b.set(1, 0);
        Kit.table(b, "send 1 1 1 every 2 at 0 on 0;get 2 1 1 every 2 at 0 on 0;");
        // {72, 58} and {72, 38}: 144, 110, 130, 96.
        int[] behind = {168, 182, 202, 216};
        for (int minor = 160; minor <= 220; minor++) {
            b.set(0, minor);
            int n = 0;
            for (int time : behind) {
                n += time <= minor ? 1 : 0;
            }
            Kit.due("behind in " + minor, n, b.spread(0, 4));
            Kit.due("none are due", 1, b.spread(1, 4));
        }
    }

    /** "(nobody wanted)"; whether each TRY goes through is not asked of who has POWER, hears or babbles as now. */
    private static void spreadNobodyWanted() {
        CommandBus b = new CommandBus();
        b.terminal(1, 2, 1);
        b.terminal(1, 0, 0);
        b.terminal(7, 7, 3);
        Kit.table(b, "mode 1 1 every 1 at 0 on 0;");
        spread(b, 0, 3, 52, 90, -1, 3);
        b.terminal(8, 0, 0);
        spread(b, 0, 3, 52, 90, -1, 3);
        b.frame(3);
        spread(b, 0, 3, 52, 90, -1, 3);
    }

    /** 24 LINES: the greatest LOAD, and times up to MINOR 9999. */
    private static void fullTable() {
        CommandBus b = new CommandBus();
        b.set(0, 9999);
        b.set(1, 3);
        Kit.table(b, Scenes.every(22, "get1 1 8"));
        Kit.due("load", 22 * 212, b.fits(0));
        Kit.due("least", 22 * 152, b.spread(0, 1));
        Kit.due("greatest", 22 * (3 * 38 + 212), b.spread(0, 2));
        Kit.due("left", 9999 - 22 * 212, b.fits(3));
        Kit.table(b, Scenes.every(24, "hand1"));
        Kit.due("lines", 24, b.load(7, 2));
        Kit.due("load", 24 * 52, b.load(7, 0));
    }
}
