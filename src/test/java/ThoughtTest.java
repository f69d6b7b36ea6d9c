/** Promises 19, 30, 31: what could be, what would be, and the image. */
public final class ThoughtTest {
    public static void main(String[] args) {
        spread();
        spreadEdges();
        would();
        image();
        Kit.finish();
    }

    private static void due(CommandBus b, int f, int... answers) {
        for (int what = 0; what < answers.length; what++) {
            Kit.due("spread " + f + " " + what, answers[what], b.spread(f, what));
        }
    }

    private static void spread() {
        CommandBus b = new CommandBus();
        Kit.table(b, "all 1 1 every 1 at 0 on 0;mode 1 17 every 2 at 0 on 0;pass 1 1 2 1 1 every 4 at 2 on 0;hand 8 every 1 at 0 on 0;");
        due(b, 1, 1, 44, 44, -1, 1);
        due(b, 0, 3, 44 + 72, 44 + 58 + 72, -1, 3);
        b.set(1, 0);
        due(b, 0, 2, 44 + 58, 44 + 72, -1, 2);
        // 44, then 72 or 58, then 120 or 58
        due(b, 2, 4, 44 + 58 + 58, 44 + 72 + 120, -1, 4);
        b.set(0, 235);
        // 116 leaves no time for 120; 102 goes on to 222 or 160
        due(b, 2, 3, 116, 44 + 58 + 120, 2, 0);
        b.set(0, 100);
        due(b, 2, 1, 44, 44, 1, 0);
        due(b, 1, 1, 44, 44, -1, 1);
    }

    private static void spreadEdges() {
        CommandBus b = new CommandBus();
        Kit.due("f", -1, b.spread(-1, 0));
        Kit.due("f", -1, b.spread(8, 0));
        Kit.due("what", -1, b.spread(0, -1));
        Kit.due("what", -1, b.spread(0, 5));
        Kit.table(b, "send 1 1 3 every 1 at 0 on 0;");
        b.set(0, 112);
        due(b, 0, 2, 98, 112, -1, 0);
        b.set(0, 111);
        due(b, 0, 1, 0, 0, 0, 0);
        b.set(0, 9999);
        b.set(1, 3);
        Kit.table(b, "pass 1 1 2 1 8 every 1 at 0 on 0;".repeat(15));
        // each takes 260, 318, 376, 434 or, without any answer, 232: steps of 58, and of 28
        Kit.due("least", 15 * 232, b.spread(0, 1));
        Kit.due("greatest", 15 * 434, b.spread(0, 2));
        Kit.due("crowded", -1, b.spread(0, 3));
        Kit.due("all have room", b.spread(0, 0), b.spread(0, 4));
        b.set(0, 100);
        Kit.due("not even one", 0, b.spread(0, 3));
        due(b, 0, 1, 0, 0, 0, 0);
    }

    private static void would() {
        CommandBus b = new CommandBus();
        Kit.table(b, "send 1 1 1 every 1 at 0 on 0;hand 2 every 2 at 1 on 1;get 3 1 2 every 1 at 0 on 0;");
        Kit.events(b, "at 2 power 1 0;");
        b.terminal(2, 5, 1);
        b.signal(3, 1, 8000, 0);
        b.noise(0, 3);
        Kit.due("good", 1 + 1, b.would(1, 0) - (b.would(1, 1)));
        Kit.due("good in 2", 5, b.would(2, 0));
        Kit.due("bad in 2", 0, b.would(2, 1));
        Kit.due("good in 4", 5 + 1 + 1, b.would(4, 0));
        Kit.due("bad in 4", 1 + 2, b.would(4, 1));
        Kit.due("then", 8, b.would(1, 2));
        Kit.due("then", 2, b.would(2, 2));
        Kit.due("most time", 72 + 72 + 92, b.would(1, 3));
        Kit.due("nothing of it stays", 0, b.look(2) + b.look(7) + b.look(8) + b.look(11) + b.look(12) + b.look(13));
        Kit.due("signal neither", 0, b.at(3, 1, 0, 0) + b.smooth(3, 1, 0));
        Kit.due("noise is to come", 1, b.look(9));
        Kit.due("power", 1, b.of(1, 0));
        Kit.due("counts", 0, b.count(0, 0) + b.line(0, 5) + b.tally(1, 0));
        Kit.due("n", -1, b.would(0, 0));
        Kit.due("n", -1, b.would(21, 0));
        Kit.due("what", -1, b.would(1, 4));
        Kit.due("what", -1, b.would(1, -1));
        Kit.due("as was thought", 7, b.frame(4));
        Kit.due("and so", 2, b.look(3));
    }

    private static void image() {
        CommandBus b = new CommandBus();
        Kit.due("none yet", false, b.image(false));
        Kit.table(b, "send 1 1 1 every 1 at 0 on 0;");
        Kit.events(b, "at 3 busy 1 1;");
        b.set(0, 500);
        b.noise(1, 9);
        b.frame(2);
        Kit.due("taken", true, b.image(true));
        for (int again = 0; again < 2; again++) {
            b.set(0, 600);
            b.set(1, 0);
            b.noise(1, 9);
            b.frame(3);
            Kit.due("busy", 4, b.log(0, 4));
            Kit.put(b, "all 1 ;");
            Kit.due("fault", -1, b.table());
            Kit.due("other table", 2, Kit.table(b, "all 1 1 every 1 at 0 on 0;all 1 1 every 1 at 0 on 0;"));
            Kit.events(b, "");
            Kit.put(b, "all 1 ;");
            Kit.due("fault", -1, b.table());
            Kit.put(b, "hand 2 every 1 at 0 on 1;");
            b.terminal(4, 9, 4);
            b.signal(4, 1, 1, 1);
            b.word(-1, 1, 0, 5);
            b.once(0, 3, 4, 0, 6);
            Kit.due("gone back", true, b.image(false));
            int[] look = {500, 1, 2, 8, 1, 0, 0, 6, 0, 0, 1, 2, 6, 72, 0, 1};
            for (int what = 0; what < look.length; what++) {
                Kit.due("look " + what, look[what], b.look(what));
            }
            Kit.due("not told", 0, b.of(4, 9) + b.of(4, 11) + b.at(-1, 1, 0, 0));
            Kit.due("fault is as it was", 1, b.fault(0));
            Kit.due("its place, too", 6, b.fault(1));
            Kit.due("line", 2, b.line(0, 5));
            Kit.due("log", 1, b.log(0, 0));
            Kit.due("trail", 100, b.trail(0));
            Kit.due("the tape stays", true, b.end(25));
            Kit.due("not longer", false, b.end(26));
            b.end(0);
            b.frame(1);
            Kit.due("no signal", 0, b.at(4, 1, 0, 0));
        }
        Kit.due("taken anew", true, b.image(true));
        b.frame(5);
        b.image(false);
        Kit.due("there", 3, b.look(2));
    }
}
