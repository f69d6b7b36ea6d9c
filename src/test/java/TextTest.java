/** Promises 9 to 18: the tape, both texts with their faults, times, phases, loads. */
public final class TextTest {
    public static void main(String[] args) {
        tape();
        lines();
        faults();
        eventFaults();
        twentyFive();
        phases();
        best();
        Kit.finish();
    }

    private static void tape() {
        CommandBus b = new CommandBus();
        for (int k = 1; k <= 25; k++) {
            Kit.due("feed", 20 * k, b.feed(0x20202020, 0x20202020, 0x20202020, 0x20202020, 0x20202020));
        }
        Kit.due("full", -1, b.feed(0, 0, 0, 0, 0));
        Kit.due("end 501", false, b.end(501));
        Kit.due("end -1", false, b.end(-1));
        Kit.due("end 500", true, b.end(500));
        Kit.due("end 481", true, b.end(481));
        Kit.due("no room", -1, b.feed(0, 0, 0, 0, 0));
        Kit.due("end 480", true, b.end(480));
        Kit.due("longer", false, b.end(481));
        Kit.due("room", 500, b.feed(0, 0, 0, 0, 0x0000003b));
        Kit.due("fault", -1, b.table());
        Kit.due("fault", 1, b.fault(0));
        Kit.due("place", 480, b.fault(1));
        Kit.due("empty then", false, b.end(1));
        Kit.due("blank is no line", 0, Kit.table(b, " \n  "));
        Kit.due("fault", 0, b.fault(0));
        Kit.due("place", -1, b.fault(1));
        Kit.due("bytes, the highest first", 20, b.feed(0x68616e64, 0x20312065, 0x76657279, 0x20312061, 0x7420306f));
        Kit.due("and on", 40, b.feed(0x6e20313b, 0x20202020, 0x20202020, 0x20202020, 0x20202020));
        Kit.due("one line", 1, b.table());
        Kit.due("kind", 5, b.line(0, 0));
        Kit.due("bus", 1, b.line(0, 3));
    }

    private static void lines() {
        CommandBus b = new CommandBus();
        Kit.due("lines", 7, Kit.table(b, "send 1 2 3 every 8 at 7 on 1;get 7 6 8 every 4 at 3 on 0;"
            + "pass 0 1 7 6 8 every 2 at 1 on 1;all 6 8 every 1 at 0 on 0;mode 7 31 every 1 any on 1;"
            + "hand 8 every 8 at 0 on 0;mode 0 16every2at0on 0;"));
        int[][] due = {{0, 8, 7, 1, 112}, {1, 4, 3, 0, 212}, {2, 2, 1, 1, 260}, {3, 1, 0, 0, 184}, {4, 1, 0, 1, 52},
            {5, 8, 0, 0, 52}, {4, 2, 0, 0, 72}};
        for (int i = 0; i < due.length; i++) {
            for (int what = 0; what < 5; what++) {
                Kit.due("line " + i + " " + what, due[i][what], b.line(i, what));
            }
            Kit.due("never due", 0, b.line(i, 5) + b.line(i, 6));
            Kit.due("no outcome", -1, b.line(i, 7));
        }
        Kit.due("lines", 7, b.look(4));
        Kit.due("none", -1, b.line(7, 0));
        Kit.due("none", -1, b.line(-1, 0));
        Kit.due("what", -1, b.line(0, 8));
        Kit.due("what", -1, b.line(0, -1));
        Kit.due("load 0", 184 + 52 + 52 + 72, b.load(0, 0));
        Kit.due("load 7", 112 + 212 + 260 + 184 + 52, b.load(7, 0));
        Kit.due("due in 7", 5, b.load(7, 2));
        Kit.due("due in 6", 3, b.load(6, 2));
        Kit.due("greatest", 820, b.fits(0));
        Kit.due("left", 2000 - 820, b.fits(3));
        b.set(0, 820);
        Kit.due("fits", -1, b.fits(2));
        Kit.due("not above", 0, b.load(7, 1));
        b.set(0, 819);
        Kit.due("7 is too full", 7, b.fits(2));
        Kit.due("above", 1, b.load(7, 1));
        Kit.due("less than nothing", -1, b.fits(3));
        Kit.due("none", -1, b.load(8, 0));
        Kit.due("none", -1, b.load(-1, 0));
        Kit.due("what", -1, b.load(0, 3));
        Kit.due("what", -100000, b.fits(-1));
        for (int c = 16; c < 20; c++) {
            Kit.table(b, "mode 1 " + c + " every 1 at 0 on 0;");
            Kit.due("72", 72, b.line(0, 4));
        }
        Kit.table(b, "mode 1 20 every 1 at 0 on 0;");
        Kit.due("52", 52, b.line(0, 4));
    }

    private static void fault(String text, int code, int place) {
        CommandBus b = new CommandBus();
        Kit.table(b, "hand 1 every 1 at 0 on 0;");
        Kit.due(text, code == 0 ? 1 : -1, Kit.table(b, text));
        Kit.due("fault of " + text, code, b.fault(0));
        Kit.due("place of " + text, place, b.fault(1));
        if (code != 0) {
            Kit.due("stays as it was", 5, b.line(0, 0));
        }
    }

    private static void faults() {
        fault("send 0 1 1 every 1 at 0 on 0;", 0, -1);
        fault("send0 1 1every1at0on0;", 0, -1);
        fault("send 0000 0001 1 every 0008 any on 1 ; \n", 0, -1);
        fault("send 0 1 1 every 1 at 0 on 0", 1, 28);
        fault("send 0 1 1 every 1 at 0 on 0  ", 1, 30);
        fault("Send 0 1 1 every 1 at 0 on 0;", 1, 0);
        fault("sends 0 1 1 every 1 at 0 on 0;", 1, 0);
        fault("sen 0 1 1 every 1 at 0 on 0;", 1, 0);
        fault("hand 1 everyZ", 1, 7);
        fault("hand 1 everyA", 1, 7);
        fault("hand 1 everya", 1, 7);
        fault("hand 1 everyz", 1, 7);
        fault("hand 1 every@", 1, 12);
        fault("hand 1 every[", 1, 12);
        fault("hand 1 every`", 1, 12);
        fault("hand 1 every{", 1, 12);
        fault("hand 1/", 1, 6);
        fault("hand 1:", 1, 6);
        fault("  ;", 1, 2);
        fault("send 8 1 1 every 1 at 0 on 0;", 2, 5);
        fault("send 00000 1 1 every 1 at 0 on 0;", 1, 5);
        fault("send 0 0 1 every 1 at 0 on 0;", 2, 7);
        fault("send 0 7 1 every 1 at 0 on 0;", 2, 7);
        fault("send 0 1 0 every 1 at 0 on 0;", 2, 9);
        fault("get 0 1 9 every 1 at 0 on 0;", 2, 8);
        fault("get 0 1 8 every 3 at 0 on 0;", 2, 16);
        fault("get 0 1 8 every 0 at 0 on 0;", 2, 16);
        fault("get 0 1 8 every 16 at 0 on 0;", 2, 16);
        fault("get 0 1 8 every 4 at 4 on 0;", 2, 21);
        fault("get 0 1 8 every 4 at 3 on 2;", 2, 26);
        fault("get 0 1 8 every 4 any 3 on 1;", 1, 22);
        fault("get 0 1 8 every 4 on 1;", 1, 18);
        fault("get 0 1 every 4 at 0 on 1;", 1, 8);
        fault("get 0 1 1 1 every 4 at 0 on 1;", 1, 10);
        fault("pass 1 2 1 2 1 every 1 at 0 on 0;", 2, 9);
        fault("pass 1 2 8 2 1 every 1 at 0 on 0;", 2, 9);
        fault("pass 1 2 0 2 1 every 1 at 0 on 0;", 0, -1);
        fault("pass 1 2 0 0 1 every 1 at 0 on 0;", 2, 11);
        fault("pass 1 2 0 7 1 every 1 at 0 on 0;", 2, 11);
        fault("pass 1 0 0 6 1 every 1 at 0 on 0;", 2, 7);
        fault("pass 1 6 0 6 9 every 1 at 0 on 0;", 2, 13);
        fault("all 0 8 every 1 at 0 on 0;", 2, 4);
        fault("all 7 8 every 1 at 0 on 0;", 2, 4);
        fault("all 6 0 every 1 at 0 on 0;", 2, 6);
        fault("all 1 9 every 1 at 0 on 0;", 2, 6);
        fault("all 1 8 every 1 at 0 on 0;", 0, -1);
        fault("mode 1 0 every 1 at 0 on 0;", 2, 7);
        fault("mode 1 32 every 1 at 0 on 0;", 2, 7);
        fault("mode 8 1 every 1 at 0 on 0;", 2, 5);
        fault("hand 9 every 1 at 0 on 0;", 2, 5);
        fault("hand 8 every 1 at 0 on 0.", 1, 24);
        fault("hand 8 every 1 at 0\ton 0;", 1, 19);
        fault("hand 8 every 1 at 0\non 0;", 0, -1);
        fault("hand 8 every 1 anyon 0;", 1, 15);
        fault("hand 9 every 3 \u00e9", 2, 5);
        fault("power 9 every 3", 1, 0);
        fault("hand 8 every 1 at 0 on 0;;", 1, 25);
    }

    private static void eventFault(String text, int lines, int code, int place) {
        CommandBus b = new CommandBus();
        Kit.events(b, "at 7 power 8 0;at 8 noise 1 999;");
        Kit.due(text, lines, Kit.events(b, text));
        Kit.due("fault of " + text, code, b.fault(0));
        Kit.due("place of " + text, place, b.fault(1));
        Kit.due("lines", lines < 0 ? 2 : lines, b.look(15));
        if (lines < 0) {
            Kit.due("stays as it was", 999, b.event(1, 3));
        }
    }

    private static void eventFaults() {
        String[] words = {"power", "busy", "service", "system", "flag", "accept", "deaf", "babble", "noise"};
        for (int which = 0; which < 9; which++) {
            int t = which == 8 ? 1 : which == 0 ? 8 : 7;
            int v = which == 8 ? 999 : which > 5 ? 3 : 1;
            CommandBus b = new CommandBus();
            Kit.due("one", 1, Kit.events(b, "at 9999" + words[which] + " " + t + " " + v + ";"));
            Kit.due("F", 9999, b.event(0, 0));
            Kit.due("which", which, b.event(0, 1));
            Kit.due("T, B", t, b.event(0, 2));
            Kit.due("V, N", v, b.event(0, 3));
            Kit.due("what", -1, b.event(0, 4));
            Kit.due("what", -1, b.event(0, -1));
            Kit.due("none", -1, b.event(1, 0));
            Kit.due("none", -1, b.event(-1, 0));
            int at = 4 + words[which].length();
            eventFault("at 9" + words[which] + " " + (t + 1) + " " + v + ";", -1, 2, at + 1);
            eventFault("at 9" + words[which] + " " + t + " " + (v + 1) + ";", -1, 2, at + 3);
        }
        eventFault("", 0, 0, -1);
        eventFault("at 1 noise 0 0;", -1, 2, 13);
        eventFault("at 10000 noise 0 1;", -1, 1, 3);
        eventFault("at 1 send 0 1;", -1, 1, 5);
        eventFault("at 1 at 0 1;", -1, 1, 5);
        eventFault("at 1 busy 0 1", -1, 1, 13);
        eventFault("busy 0 1;", -1, 1, 0);
        eventFault("at 1 busy 0 1; at ", -1, 1, 18);
    }

    private static void twentyFive() {
        StringBuilder text = new StringBuilder();
        for (int k = 0; k < 24; k++) {
            text.append("hand0every1at0on0;");
        }
        CommandBus b = new CommandBus();
        Kit.due("24", 24, Kit.table(b, text.toString()));
        Kit.due("all due", 24, b.load(5, 2));
        Kit.due("25", -1, Kit.table(b, text + " hand"));
        Kit.due("fault 3", 3, b.fault(0));
        Kit.due("at its first token", 433, b.fault(1));
        Kit.due("one that begins no line", -1, Kit.table(b, text + "every"));
        Kit.due("fault 1", 1, b.fault(0));
        Kit.due("at its place", 432, b.fault(1));
        Kit.due("stays", 24, b.look(4));
        String event = "at1flag7 1;";
        Kit.due("24 events", 24, Kit.events(b, event.repeat(24)));
        Kit.due("25 events", -1, Kit.events(b, event.repeat(25)));
        Kit.due("fault 3", 3, b.fault(0));
        Kit.due("place", 264, b.fault(1));
    }

    private static void phases() {
        CommandBus b = new CommandBus();
        Kit.table(b, "all 1 1 every 2 any on 0;all 1 1 every 2 any on 0;all 1 1 every 2 any on 0;"
            + "all 1 1 every 4 at 0 on 0;all 1 1 every 8 any on 0;");
        Kit.due("away from what is told", 1, b.line(0, 2));
        Kit.due("the even ones now", 0, b.line(1, 2));
        Kit.due("again the odd ones", 1, b.line(2, 2));
        Kit.due("the emptiest", 2, b.line(4, 2));
        int[] loads = {88, 88, 88, 88, 88, 88, 44, 88};
        for (int f = 0; f < 8; f++) {
            Kit.due("load " + f, loads[f], b.load(f, 0));
        }
        Kit.due("best", 88, b.fits(1));
    }

    private static void best() {
        CommandBus b = new CommandBus();
        String line = "all 1 1 every 8 any on 0;";
        Kit.table(b, line.repeat(4));
        Kit.due("four", 44, b.fits(1));
        Kit.table(b, line.repeat(5));
        Kit.due("five", -1, b.fits(1));
        Kit.due("greatest", 44, b.fits(0));
        Kit.table(b, "");
        Kit.due("none", 0, b.fits(1));
        Kit.table(b, "all 1 1 every 1 at 0 on 0;all 1 1 every 2 at 1 on 0;");
        Kit.due("nothing to choose", 88, b.fits(1));
        Kit.table(b, "all 1 1 every 2 any on 0;all 1 2 every 2 any on 0;all 1 3 every 1 any on 1;all 1 8 every 2 any on 0;");
        Kit.due("one after the other is not the best", 84 + 44 + 184, b.fits(0));
        Kit.due("better", 84 + 184, b.fits(1));
    }
}
