/** THE EVENTS at their FRAMES (promises 12, 13): when they come, in which order, and what each of them tells. */
public final class EventTest {
    private static final String[] WHICH = {"power", "busy", "service", "system", "flag", "accept", "deaf", "babble"};

    public static void main(String[] args) {
        asToldByTerminal();
        atTheirFrame();
        lineByLine();
        whatIsPast();
        twentyFourAtOnce();
        toldAnew();
        aheadOfAllElse();
        tableToldAnew();
        Kit.finish();
    }

    /** "as if told by terminal()": each word, each T, each V. */
    private static void asToldByTerminal() {
        for (int which = 0; which < 8; which++) {
            for (int t = 0; t <= (which == 0 ? 8 : 7); t++) {
                for (int v = 0; v <= (which >= 6 ? 3 : 1); v++) {
                    CommandBus b = new CommandBus();
                    b.terminal(t, which, which >= 6 ? 3 - v : 1 - v);
                    Kit.events(b, "at 0 " + WHICH[which] + " " + t + " " + v + ";");
                    Kit.due("not yet", which >= 6 ? 3 - v : 1 - v, b.of(t, which));
                    b.frame(1);
                    Kit.due(WHICH[which] + " of " + t, v, b.of(t, which));
                    int other = t == 0 ? 1 : t - 1;
                    Kit.due("no other one", which == 0 ? 1 : 0, b.of(other, which));
                }
            }
        }
    }

    /** "What is told at F is done at the beginning of that FRAME": not one earlier, not one later. */
    private static void atTheirFrame() {
        for (int f : new int[] {0, 1, 7, 59, 60, 61, 119}) {
            CommandBus b = new CommandBus();
            Kit.events(b, "at " + f + " system 3 1;");
            Scenes.frames(b, f);
            Kit.due("ahead of " + f, 0, b.of(3, 3));
            b.frame(1);
            Kit.due("in " + f, 1, b.of(3, 3));
            b.terminal(3, 3, 0);
            b.frame(10);
            Kit.due("once", 0, b.of(3, 3));
        }
    }

    /** "LINE by LINE": of several of one FRAME the latest stays; their places in the text count, not F. */
    private static void lineByLine() {
        CommandBus b = new CommandBus();
        Kit.events(b, "at 2 deaf 1 1;at 0 deaf 1 3;at 0 deaf 1 2;at 1 deaf 1 0;at 2 deaf 1 2;at 2 deaf 1 3;");
        int[] due = {2, 0, 3};
        for (int f = 0; f < 3; f++) {
            b.frame(1);
            Kit.due("frame " + f, due[f], b.of(1, 6));
        }
    }

    /** One of a FRAME that is past never comes; one of the next FRAME does. */
    private static void whatIsPast() {
        CommandBus b = new CommandBus();
        b.frame(5);
        Kit.due("three", 3, Kit.events(b, "at 4 busy 1 1;at 5 flag 1 1;at 0 system 1 1;"));
        b.frame(20);
        Kit.due("past", 0, b.of(1, 1) + b.of(1, 3));
        Kit.due("the next", 1, b.of(1, 4));
    }

    private static void twentyFourAtOnce() {
        StringBuilder text = new StringBuilder();
        for (int k = 0; k < 24; k++) {
            text.append("at1").append(WHICH[1 + k / 8]).append(k % 8).append(" 1;");
        }
        CommandBus b = new CommandBus();
        Kit.due("24", 24, Kit.events(b, text.toString()));
        b.frame(2);
        for (int k = 0; k < 24; k++) {
            Kit.due("event " + k, 1, b.of(k % 8, 1 + k / 8));
            Kit.due("F", 1, b.event(k, 0));
            Kit.due("which", 1 + k / 8, b.event(k, 1));
            Kit.due("T", k % 8, b.event(k, 2));
            Kit.due("V", 1, b.event(k, 3));
        }
        for (int what = 0; what < 4; what++) {
            Kit.due("none such", -1, b.event(24, what));
        }
    }

    /** Other events take the place of all that were told. */
    private static void toldAnew() {
        CommandBus b = new CommandBus();
        Kit.events(b, "at 1 busy 1 1;at 1 flag 1 1;");
        Kit.events(b, "at 1 system 1 1;");
        Kit.due("one", 1, b.look(15));
        Kit.due("none such", -1, b.event(1, 0));
        b.frame(3);
        Kit.due("gone", 0, b.of(1, 1) + b.of(1, 4));
        Kit.due("told", 1, b.of(1, 3));
    }

    /** "THE EVENTS first": ahead of SIGNALS, of SILENCE, of all LINES. */
    private static void aheadOfAllElse() {
        CommandBus b = new CommandBus();
        Kit.table(b, "send 1 1 1 every 1 at 0 on 0;");
        Kit.events(b, "at 0 busy 1 1;at 1 power 8 0;at 2 power 8 1;");
        b.frame(1);
        Kit.due("busy in its frame", 4, b.log(0, 4));
        b.frame(1);
        Kit.due("silent in its frame", 1, b.look(5));
        b.frame(1);
        Kit.due("no more", 0, b.look(5));
        Kit.due("lines", 2, b.look(11));
    }

    /** "(5 to 7: since THE TABLE was told.)", "since it was told": the same text told again begins anew. */
    private static void tableToldAnew() {
        CommandBus b = new CommandBus();
        String text = "mode 1 1 every 1 at 0 on 0;hand 1 every 1 at 0 on 0;";
        Kit.table(b, text);
        b.frame(3);
        Kit.due("due", 3, b.line(0, 5));
        Kit.due("good", 3, b.line(0, 6));
        Kit.due("latest", 0, b.line(0, 7));
        Kit.due("latest", 5, b.line(1, 7));
        Kit.due("counts", 3, b.count(1, 5));
        Kit.table(b, "hand 9");
        Kit.due("a fault leaves them", 3 + 3 + 5 + 3, b.line(0, 5) + b.line(0, 6) + b.line(1, 7) + b.count(1, 5));
        Kit.table(b, text);
        for (int i = 0; i < 2; i++) {
            Kit.due("due", 0, b.line(i, 5));
            Kit.due("good", 0, b.line(i, 6));
            Kit.due("latest", -1, b.line(i, 7));
            for (int o = 0; o < 8; o++) {
                Kit.due("count", 0, b.count(i, o));
            }
        }
        Kit.due("the log stays", 6, b.look(11));
        Kit.due("tally stays", 6, b.tally(1, 0));
    }
}
