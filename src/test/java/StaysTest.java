import java.util.ArrayList;
import java.util.List;

/** What each call leaves alone: on objects of which nothing is as at first, only what the document tells changes. */
public final class StaysTest {
    private static final int[] BITS = {1, 1, 1, 1, 1, 1, 3, 3, 126, 65535};

    private static final Twins WORN = new Twins(Scenes::worn);
    private static final Twins SILENT = new Twins(Scenes::wornAndSilent);

    public static void main(String[] args) {
        sceneIsWorn();
        whatIsTold();
        whatIsToldOfTerminals();
        texts();
        tries();
        triesThatFail();
        codes();
        frames();
        handing();
        takingControl();
        Kit.finish();
    }

    /** Else nothing would be seen below. */
    private static void sceneIsWorn() {
        CommandBus b = new CommandBus();
        Scenes.worn(b);
        for (int t = 0; t < 8; t++) {
            for (int what = 10; what < 18; what++) {
                Kit.due(what + " of " + t, false, b.of(t, what) == (what == 13 ? t << 11 : 0));
            }
            Kit.due("out of " + t, 800 + t, b.at(t, 4, 3, 0));
            Kit.due("in of " + t, 701, b.at(t, 1, 0, 1));
            Kit.due("got of " + t, false, b.at(t, 2, 0, 2) == 0);
            Kit.due("smooth of " + t, false, b.smooth(t, 2, 0) == 0);
        }
        Kit.due("moves", 2, b.look(14));
        Kit.due("time", false, b.look(13) == 0);
        Kit.due("log", false, b.look(11) == 0);
        Kit.due("noise", 2, b.look(9) + b.look(10));
        CommandBus c = new CommandBus();
        Scenes.wornAndSilent(c);
        Kit.due("silence", 3, c.look(5));
        Kit.due("the controller", 8, c.look(3));
    }

    private static void both(String name, java.util.function.Consumer<CommandBus> call, String... allowed) {
        WORN.touchesAtOnce(name, call, allowed);
        SILENT.touchesAtOnce(name + " in silence", call, allowed);
    }

    /** Promises 2, 4, 5, 6, 9, 10, 30, 31: a number told is that number, and nothing else is another one. */
    private static void whatIsTold() {
        both("MINOR", b -> b.set(0, 130), "look 0 ", "load 0 1 ", "load 1 1 ", "load 2 1 ", "load 3 1 ", "load 4 1 ",
            "load 5 1 ", "load 6 1 ", "load 7 1 ", "fits 2 ", "fits 3 ", "spread");
        both("RETRIES", b -> b.set(1, 3), "look 1 ", "spread");
        both("noise on 0", b -> b.noise(0, 5), "look 9 ");
        both("noise on 1", b -> b.noise(1, 5), "look 10 ");
        both("feed", b -> b.feed(1, 2, 3, 4, 5));
        both("end", b -> b.end(0));
        both("image", b -> b.image(true));
        both("would", b -> b.would(20, 0));
        for (int t = 0; t < 8; t++) {
            int u = t;
            both("signal", b -> b.signal(u, 2, -7000, 400));
            both("signal of another sub", b -> b.signal(u, 4, -7000, 400));
            both("word under a signal", b -> b.word(u, 2, 1, 9), "at " + (6 * t + 1) + " 3 ");
        }
        for (int s = 1; s <= 6; s++) {
            int sub = s;
            both("word of send", b -> b.word(-1, sub, 7, 9), "send " + (s - 1) + " 7 ");
        }
    }

    /** Promise 3: POWER that goes and comes back makes nothing else what it was at first, BUSY no STATUS another one. */
    private static void whatIsToldOfTerminals() {
        for (int t = 0; t <= 8; t++) {
            int u = t;
            for (int what = 0; what < (t == 8 ? 1 : 10); what++) {
                int w = what;
                String own = "of " + t + " " + what + " ";
                both("0 of " + what, b -> b.terminal(u, w, 0), own, "waits");
                both("most of " + what, b -> b.terminal(u, w, BITS[w]), own, "waits");
            }
            both("power that comes back", b -> {
                b.terminal(u, 0, 0);
                b.terminal(u, 0, 1);
            });
        }
    }

    /** Promises 11, 12: THE TABLE told anew is new in its LINES alone, THE EVENTS are told and not yet done. */
    private static void texts() {
        String[] table = {"line", "count", "load", "fits", "spread", "look 4 "};
        both("a table", b -> Kit.table(b, "send 1 1 1 every 1 at 0 on 0;"), table);
        both("no table", CommandBus::table, table);
        both("a fault in the table", b -> Kit.table(b, "send 1 1 1 every 1 at 0 on"), "fault");
        String[] events = {"event", "look 15 "};
        for (int f = 0; f < 8; f++) {
            String at = "at " + f;
            both("events", b -> Kit.events(b, at + " power 8 0;" + at + " busy 1 1;" + at + " noise 0 1;"), events);
        }
        both("no events", CommandBus::events, events);
        both("a fault in the events", b -> Kit.events(b, "at 3 power 9 0;"), "fault");
    }

    private static String[] tried(int bus, int t, String... more) {
        List<String> all = new ArrayList<>(List.of(more));
        all.addAll(List.of("bus " + bus + " ", "trail", "heard", "look " + (7 + bus) + " ", "look 12 "));
        if (t >= 0) {
            all.addAll(List.of("tally " + t + " ", "of " + t + " 12 ", "of " + t + " 13 ", "of " + t + " 14 "));
        }
        return all.toArray(new String[0]);
    }

    /** Promise 8: "outside of FRAMES": no LINE, no THE LOG, no SILENCE, no time of a FRAME, and no other TERMINAL. */
    private static void tries() {
        for (int t = 0; t < 8; t++) {
            int u = t;
            for (int bus = 0; bus < 2; bus++) {
                int on = bus;
                String in = "at " + (6 * t + 2) + " 1 ";
                String last = "at " + (6 * t + 2) + " 22 ";
                both("send", b -> b.once(on, 0, u, 3, 8), tried(bus, t, in, last));
                String got = "at " + (6 * t + 3) + " 11 ";
                both("get", b -> b.once(on, 1, u, 4, 4), tried(bus, t, got));
                String high = "at " + (6 * t + 1) + " 2 ";
                String low = "at " + (6 * t + 1) + " 5 ";
                both("get of a signal", b -> b.once(on, 1, u, 2, 2), tried(bus, t, high, low, "smooth " + (6 * t + 1) + " "));
            }
        }
        for (int bus = 0; bus < 2; bus++) {
            int on = bus;
            List<String> all = new ArrayList<>();
            for (int t = 0; t < 8; t++) {
                all.addAll(List.of("of " + t + " 12 ", "of " + t + " 13 ", "of " + t + " 14 ", "at " + (6 * t + 4) + " 1 "));
            }
            both("all", b -> b.once(on, 2, 5, 5, 2), tried(bus, -1, all.toArray(new String[0])));
        }
    }

    /** A TRY that no one answers, or that is refused, leaves WORDS and SMOOTH as they were. */
    private static void triesThatFail() {
        for (int bus = 0; bus < 2; bus++) {
            int on = bus;
            String noise = "look " + (9 + bus) + " ";
            for (int kind = 0; kind < 2; kind++) {
                int k = kind;
                both("without power", b -> {
                    b.terminal(4, 0, 0);
                    b.once(on, k, 4, 2, 2);
                    b.terminal(4, 0, 1);
                }, "bus " + bus + " ", "trail", "heard", "look " + (7 + bus) + " ", "look 12 ", "tally 4 1 ");
                both("busy", b -> {
                    b.terminal(4, 1, 1);
                    b.once(on, k, 4, 2, 2);
                    b.terminal(4, 1, 0);
                }, tried(bus, 4));
                both("not legal", b -> {
                    b.terminal(4, 8, 0);
                    b.once(on, k, 4, 2, 2);
                    b.terminal(4, 8, 126);
                }, tried(bus, 4));
                both("a turned word", b -> {
                    b.noise(on, 2);
                    b.once(on, k, 4, 2, 2);
                }, tried(bus, 4, noise));
                both("held", b -> {
                    b.terminal(4, 7, 3);
                    b.once(on, k, 4, 2, 2);
                    b.terminal(4, 7, 0);
                }, "bus " + bus + " ", "trail", "heard", "look " + (7 + bus) + " ", "look 12 ", "look 6 ", "tally 4 1 ");
            }
        }
    }

    /** ==== 2. MODE: each CODE changes what it tells of, of that TERMINAL alone. */
    private static void codes() {
        String[] more = new String[32];
        more[1] = "15 ";
        more[4] = "10 ";
        more[5] = "10 ";
        more[6] = "11 ";
        more[7] = "11 ";
        more[16] = "2 ";
        more[17] = "15 ";
        for (int code = 1; code < 32; code++) {
            int c = code;
            for (int bus = 0; bus < 2; bus++) {
                int on = bus;
                String own = more[code] == null ? "of 4 12 " : "of 4 " + more[code];
                if (code == 8) {
                    both("code 8", b -> b.once(on, 3, 4, 0, 8), tried(bus, 4, "of 4 10 ", "of 4 11 "));
                } else if (code == 16) {
                    both("code 16", b -> b.once(on, 3, 4, 0, 16), tried(bus, 4, own, "of 4 16 ", "of 4 17 "));
                } else {
                    both("code " + code, b -> b.once(on, 3, 4, 0, c), tried(bus, 4, own));
                }
            }
        }
    }

    /** Promise 7: a FRAME in which no LINE is due; a silent one. */
    private static void frames() {
        List<String> allowed = new ArrayList<>(List.of("look 2 ", "look 5 ", "look 13 ", "waits"));
        for (int t = 0; t < 8; t++) {
            for (int i = 0; i < 3; i++) {
                allowed.add("at " + (6 * t + 1) + " " + 3 * i + " ");
            }
        }
        String[] frame = allowed.toArray(new String[0]);
        Twins idle = new Twins(b -> {
            Scenes.worn(b);
            b.table();
        });
        idle.touchesAtOnce("a frame without lines", b -> b.frame(1), frame);
        Twins silent = new Twins(b -> {
            Scenes.worn(b);
            b.terminal(8, 0, 0);
        });
        silent.touchesAtOnce("a silent frame", b -> b.frame(1), frame);
        silent.touchesAtOnce("silent frames", b -> b.frame(7), frame);
        silent.touchesAtOnce("power again", b -> {
            b.frame(7);
            b.terminal(8, 0, 1);
        }, "of 8 0 ", "look 2 ", "look 5 ", "look 13 ", "waits", "at ");
    }

    /** "the CONTROLLER is T behind this FRAME": SEND, GOT, SMOOTH are those of all, and T is as it was. */
    private static void handing() {
        for (int t = 0; t < 8; t++) {
            int to = t;
            Twins ready = new Twins(b -> {
                Scenes.worn(b);
                b.once(0, 3, to, 0, 8);
                b.terminal(to, 5, 1);
                b.terminal(to, 2, 0);
                Kit.table(b, "hand " + to + " every 1 at 0 on 0;");
            });
            List<String> allowed = new ArrayList<>(List.of(tried(0, t, "look 2 ", "look 3 ", "look 11 ", "look 13 ", "look 14 ",
                "log", "line", "count", "spread", "waits")));
            for (int u = 0; u < 8; u++) {
                for (int i = 0; i < 3; i++) {
                    allowed.add("at " + (6 * u + 1) + " " + 3 * i + " ");
                }
            }
            ready.touchesAtOnce("hand", b -> Kit.due("hand", 1, b.frame(1)), allowed.toArray(new String[0]));
            CommandBus b = new CommandBus();
            Scenes.worn(b);
            b.once(0, 3, t, 0, 8);
            b.terminal(t, 5, 1);
            Kit.table(b, "hand " + t + " every 1 at 0 on 0;");
            b.frame(1);
            Kit.due("controls", t, b.look(3));
        }
    }

    /** The same of whoever takes control from a silent one: no WORD is laid, nobody else is another one. */
    private static void takingControl() {
        for (int t = 0; t < 6; t++) {
            int by = t;
            Twins silent = new Twins(b -> {
                Scenes.worn(b);
                b.terminal(8, 0, 0);
                b.terminal(by, 5, 1);
                b.frame(by + 1);
            });
            List<String> allowed = new ArrayList<>(List.of("look 2 ", "look 3 ", "look 5 ", "look 14 ", "spread", "waits"));
            for (int u = 0; u < 8; u++) {
                for (int i = 0; i < 3; i++) {
                    allowed.add("at " + (6 * u + 1) + " " + 3 * i + " ");
                }
            }
            silent.touchesAtOnce("taking control", b -> b.frame(1), allowed.toArray(new String[0]));
            CommandBus b = new CommandBus();
            Scenes.worn(b);
            b.terminal(8, 0, 0);
            b.terminal(t, 5, 1);
            b.frame(t + 1);
            Kit.due("not yet", 8, b.look(3));
            b.frame(1);
            Kit.due("controls, shut or not", t, b.look(3));
        }
    }
}
