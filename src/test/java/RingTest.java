import java.util.ArrayList;
import java.util.List;

/** THE MONITOR (the latest 64), THE TRAIL (the latest 40), THE LOG (the latest 60): one less, just full, one more. */
public final class RingTest {
    public static void main(String[] args) {
        monitor();
        monitorInOneTalk();
        monitorOfBothBuses();
        trail();
        trailOfTalks();
        log();
        logAcrossTables();
        Kit.finish();
    }

    /** "THE MONITOR (the latest 64 WORDS laid on any BUS)"; "the i-th WORD .. from its end (0: the latest)" */
    private static void monitor() {
        for (int n = 61; n <= 68; n++) {
            CommandBus b = new CommandBus();
            List<Integer> laid = new ArrayList<>();
            while (laid.size() < n) {
                int words = n % 2 == 1 && laid.isEmpty() ? 2 : 1;
                laid.add(31 << 11 | 1 << 5 | words);
                for (int i = 0; i < words; i++) {
                    b.word(-1, 1, i, 5000 + laid.size());
                    laid.add(5000 + laid.size());
                }
                b.once(0, 2, 0, 1, words);
            }
            for (int i = 0; i < 66; i++) {
                Kit.due("word " + i + " of " + n, i < Math.min(64, n) ? laid.get(n - 1 - i) : -1, b.heard(i, 2));
            }
            for (int what = 0; what < 4; what++) {
                Kit.due("none", -1, b.heard(Math.min(64, n), what));
            }
        }
        for (int n = 1; n <= 40; n++) {
            CommandBus b = new CommandBus();
            for (int k = 1; k <= n; k++) {
                b.word(-1, 1, 0, k);
                b.once(k & 1, 2, 0, 1, 1);
            }
            Kit.due("the latest", n, b.heard(0, 2));
            int oldest = Math.max(1, n - 31);
            Kit.due("the oldest word", oldest, b.heard(2 * (n - oldest), 2));
            Kit.due("its bus", oldest & 1, b.heard(2 * (n - oldest), 0));
            Kit.due("its command", 31 << 11 | 33, b.heard(2 * (n - oldest) + 1, 2));
            Kit.due("no more", -1, b.heard(2 * (n - oldest) + 2, 2));
        }
    }

    /** 63, 64, 65 words by talks of nine. */
    private static void monitorInOneTalk() {
        CommandBus b = new CommandBus();
        for (int i = 0; i < 8; i++) {
            b.word(-1, 1, i, 100 + i);
        }
        for (int k = 0; k < 7; k++) {
            b.once(0, 2, 0, 1, 8);
        }
        Kit.due("63: the first command", 31 << 11 | 32 | 8, b.heard(62, 2));
        Kit.due("63: none", -1, b.heard(63, 2));
        b.once(0, 2, 0, 1, 8);
        Kit.due("72: the oldest is of the first talk no more", 100 + 7, b.heard(63, 2));
        Kit.due("72: none", -1, b.heard(64, 2));
        Kit.due("72: one later", 31 << 11 | 32 | 8, b.heard(62, 2));
    }

    /** "on any BUS": BUS, who, bits, parity of each. */
    private static void monitorOfBothBuses() {
        CommandBus b = new CommandBus();
        b.noise(1, 2);
        b.once(0, 3, 5, 0, 1);
        b.once(1, 3, 5, 0, 1);
        int[][] due = {{1, 5, 5 << 11, 1}, {1, 8, 5 << 11 | 1 << 10 | 1, 1}, {0, 5, 5 << 11, 1}, {0, 8, 5 << 11 | 1 << 10 | 1, 1}};
        for (int i = 0; i < 4; i++) {
            for (int what = 0; what < 3; what++) {
                Kit.due("heard " + i + " " + what, due[i][what], b.heard(i, what));
            }
            int right = Integer.bitCount(due[i][2]) % 2 == 0 ? 1 : 0;
            Kit.due("parity " + i, i == 0 ? 1 - right : right, b.heard(i, 3));
        }
    }

    /** "THE TRAIL (the latest 40)": by pairs of a TALK and a SLOT. */
    private static void trail() {
        for (int n = 18; n <= 23; n++) {
            CommandBus b = new CommandBus();
            for (int k = 0; k < n; k++) {
                b.once(k & 1, 2, 0, 1, 1);
            }
            Kit.due("all", 2 * n, b.look(12));
            int kept = Math.min(40, 2 * n);
            for (int i = 0; i < kept; i++) {
                int bus = n - 1 - i / 2 & 1;
                Kit.due("trail " + i + " of " + n, i % 2 == 0 ? 100 + bus : 10 * bus + 8, b.trail(i));
            }
            Kit.due("no more", -1, b.trail(kept));
            Kit.due("no more", -1, b.trail(41));
        }
    }

    /** 39, 40, 41, 42 let go: three for each answered try, two for one without answer. */
    private static void trailOfTalks() {
        for (int silent = 0; silent <= 3; silent++) {
            CommandBus b = new CommandBus();
            b.terminal(2, 0, 0);
            for (int k = 0; k < silent; k++) {
                b.once(1, 3, 2, 0, 1);
            }
            int all = 2 * silent;
            while (all + 3 <= 42) {
                b.once(0, 3, 1, 0, 1);
                all += 3;
            }
            Kit.due("all", all, b.look(12));
            int oldest = Math.min(40, all) - 1;
            int place = all - 1 - oldest;
            int due = place < 2 * silent ? (place % 2 == 0 ? 18 : 101) : new int[] {8, 1, 100}[(place - 2 * silent) % 3];
            Kit.due("the oldest of " + all, due, b.trail(oldest));
            Kit.due("none", -1, b.trail(oldest + 1));
            Kit.due("the latest", 100, b.trail(0));
            Kit.due("who answered", 1, b.trail(1));
            Kit.due("the controller", 8, b.trail(2));
        }
    }

    /** "THE LOG (the latest 60)"; "11 lines of THE LOG (all that came, kept or not)" */
    private static void log() {
        for (int n = 58; n <= 62; n++) {
            CommandBus b = new CommandBus();
            Kit.table(b, "mode 1 1 every 1 at 0 on 0;");
            Scenes.frames(b, n);
            Kit.due("all", n, b.look(11));
            Kit.due("the latest", n - 1, b.log(0, 0));
            int kept = Math.min(60, n);
            Kit.due("the oldest", n - kept, b.log(kept - 1, 0));
            for (int what = 0; what < 5; what++) {
                Kit.due("none", -1, b.log(kept, what));
            }
        }
        CommandBus b = new CommandBus();
        Kit.table(b, Scenes.every(24, "all1 1"));
        b.frame(3);
        Kit.due("all", 72, b.look(11));
        Kit.due("oldest frame", 0, b.log(59, 0));
        Kit.due("oldest line", 12, b.log(59, 1));
        Kit.due("none", -1, b.log(60, 1));
    }

    /** THE LOG goes on when another TABLE is told, and through frames of silence. */
    private static void logAcrossTables() {
        CommandBus b = new CommandBus();
        Kit.table(b, "mode 1 1 every 1 at 0 on 0;mode 2 1 every 1 at 0 on 1;");
        b.frame(1);
        Kit.table(b, "");
        b.frame(5);
        Kit.due("nothing came", 2, b.look(11));
        Kit.due("they stay", 1, b.log(0, 1));
        Kit.table(b, "mode 3 1 every 1 at 0 on 0;");
        b.terminal(8, 0, 0);
        b.frame(4);
        Kit.due("no line is due", 2, b.look(11));
        b.terminal(8, 0, 1);
        b.frame(1);
        Kit.due("three", 3, b.look(11));
        Kit.due("frame", 10, b.log(0, 0));
        Kit.due("line", 0, b.log(0, 1));
        Kit.due("frame", 0, b.log(2, 0));
    }
}
