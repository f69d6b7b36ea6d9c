/** ==== 3. THE TABLE and THE EVENTS as texts: every NUMBER on both sides of its bounds, TOKENS, the three FAULTS. */
public final class TokenTest {
    private static final String HAND = "hand1every1at0on0;";
    private static final String EVENT = "at1flag7 1;";

    private final boolean ofEvents;

    private TokenTest(boolean ofEvents) {
        this.ofEvents = ofEvents;
    }

    public static void main(String[] args) {
        TokenTest table = new TokenTest(false);
        TokenTest events = new TokenTest(true);
        table.numbersOfLines();
        table.periods();
        table.phases();
        table.passToItself();
        events.numbersOfEvents();
        table.digits();
        events.digitsOfEvents();
        table.fiveDigits("send 1 1 1 every 2 at 0 on 0 ;");
        table.fiveDigits("pass 1 6 2 6 8 every 8 any on 1 ;");
        table.fiveDigits("mode 7 31 every 4 any on 1 ;");
        events.fiveDigits("at 9999 noise 1 999 ;");
        events.fiveDigits("at 0 deaf 7 3 ;");
        table.words();
        events.wordsOfEvents();
        table.signs();
        table.ends();
        events.endsOfEvents();
        table.twentyFive(HAND, "hand send get pass all mode", "every at any on power noise");
        events.twentyFive(EVENT, "at", "power noise flag every hand");
        table.firstByPlace();
        behindAnother();
        Kit.finish();
    }

    private void read(String text, int lines, int fault, int place) {
        CommandBus b = new CommandBus();
        int got = ofEvents ? Kit.events(b, text) : Kit.table(b, text);
        Kit.due("lines of " + text, lines, got);
        Kit.due("fault of " + text, fault, b.fault(0));
        Kit.due("place of " + text, place, b.fault(1));
        Kit.due("kept of " + text, Math.max(0, lines), b.look(ofEvents ? 15 : 4));
    }

    private void fine(String text) {
        read(text, 1, 0, -1);
    }

    private void wrong(String text, int fault, int place) {
        read(text, -1, fault, place);
    }

    /** The number at a # from least to most; one beyond is FAULT 2 at the NUMBER. */
    private void number(String line, int least, int most) {
        int place = line.indexOf('#');
        for (int v = Math.max(0, least - 1); v <= most + 1; v++) {
            if (most > 40 && v > least + 1 && v < most - 1) {
                continue;
            }
            String text = line.replace("#", "" + v);
            if (v >= least && v <= most) {
                fine(text);
            } else if (v <= 9999) {
                wrong(text, 2, place);
            } else {
                wrong(text, 1, place);
            }
        }
        if (most < 9999) {
            wrong(line.replace("#", "9999"), 2, place);
        }
        wrong(line.replace("#", "-1"), 1, place);
        wrong(line.replace("#", "any"), 1, place);
        wrong(line.replace("#", "1@"), 1, place + 1);
    }

    /** "T: 0 .. 7 (hand: 0 .. 8), S: 1 .. 6, N: 1 .. 8, C: 0 .. 31 (not 0) .. B: 0, 1." */
    private void numbersOfLines() {
        String when = " every 1 at 0 on 0 ;";
        number("send # 1 1" + when, 0, 7);
        number("send 1 # 1" + when, 1, 6);
        number("send 1 1 #" + when, 1, 8);
        number("get # 1 1" + when, 0, 7);
        number("get 1 # 1" + when, 1, 6);
        number("get 1 1 #" + when, 1, 8);
        fine("pass 0 1 7 1 1" + when);
        fine("pass 7 1 0 1 1" + when);
        wrong("pass 8 1 0 1 1" + when, 2, 5);
        number("pass 0 # 1 1 1" + when, 1, 6);
        number("pass 7 1 # 1 1" + when, 0, 6);
        number("pass 0 1 1 # 1" + when, 1, 6);
        number("pass 0 1 1 1 #" + when, 1, 8);
        number("all # 1" + when, 1, 6);
        number("all 1 #" + when, 1, 8);
        number("mode # 1" + when, 0, 7);
        number("mode 1 #" + when, 1, 31);
        number("hand #" + when, 0, 8);
        for (String what : new String[] {"send 1 1 1", "get 1 1 1", "pass 1 1 2 1 1", "all 1 1", "mode 1 1", "hand 1"}) {
            number(what + " every 1 at 0 on # ;", 0, 1);
            number(what + " every 1 any on # ;", 0, 1);
            number(what + " every 8 at # on 0 ;", 0, 7);
        }
    }

    /** "P: 1, 2, 4 or 8"; "2 .. P that is none" */
    private void periods() {
        for (int p = 0; p <= 40; p++) {
            boolean one = p == 1 || p == 2 || p == 4 || p == 8;
            for (String what : new String[] {"send 1 1 1", "all 1 1", "hand 1"}) {
                for (String when : new String[] {" at 0 on 0;", " any on 1;"}) {
                    read(what + " every " + p + when, one ? 1 : -1, one ? 0 : 2, one ? -1 : what.length() + 7);
                }
            }
        }
        wrong("hand 1 every 3 at 7 on 9;", 2, 13);
        wrong("hand 1 every 9999 at 0 on 0;", 2, 13);
        wrong("hand 1 every 64 any on 0;", 2, 13);
    }

    /** "Q: 0 .. P less 1" */
    private void phases() {
        for (int p = 1; p <= 8; p *= 2) {
            for (int q = 0; q <= 9; q++) {
                read("hand 1 every " + p + " at " + q + " on 0;", q < p ? 1 : -1, q < p ? 0 : 2, q < p ? -1 : 18);
            }
        }
    }

    /** "2 (at the NUMBER) .. pass to itself": the second T is what makes it so. */
    private void passToItself() {
        for (int t = 0; t < 8; t++) {
            for (int u = 0; u < 9; u++) {
                boolean ok = u != t && u < 8;
                read("pass " + t + " 1 " + u + " 1 1 every 1 at 0 on 0;", ok ? 1 : -1, ok ? 0 : 2, ok ? -1 : 9);
            }
            wrong("pass " + t + " 1 000" + t + " 9 9 every 1 at 0 on 0;", 2, 9);
        }
    }

    /** "F: 0 .. 9999, T: 0 .. 7 (power: 0 .. 8), V: 0, 1 (deaf, babble: 0 .. 3), B: 0, 1, N: 1 .. 999." */
    private void numbersOfEvents() {
        for (String which : new String[] {"power", "busy", "service", "system", "flag", "accept", "deaf", "babble"}) {
            number("at # " + which + " 1 1 ;", 0, 9999);
            number("at 1 " + which + " # 1 ;", 0, which.equals("power") ? 8 : 7);
            number("at 1 " + which + " 1 # ;", 0, which.equals("deaf") || which.equals("babble") ? 3 : 1);
        }
        number("at # noise 1 1 ;", 0, 9999);
        number("at 1 noise # 1 ;", 0, 1);
        number("at 1 noise 1 # ;", 1, 999);
    }

    /** "digits as many as stand together NUMBERS of 1 to 4 digits or none" */
    private void digits() {
        String line = "send 1 1 1 every 1 at 0 on 0 ;";
        for (int k = 0; k < line.length(); k++) {
            if (Character.isDigit(line.charAt(k))) {
                String head = line.substring(0, k);
                fine(head + "0" + line.substring(k));
                fine(head + "00" + line.substring(k));
                fine(head + "000" + line.substring(k));
                wrong(head + "0000" + line.substring(k), 1, k);
                wrong(head + "00000" + line.substring(k), 1, k);
                wrong(head + "1".repeat(5) + line.substring(k), 1, k);
            }
        }
        wrong("send 1 1 10001 every 1 at 0 on 0 ;", 1, 9);
        wrong("send 4294967296 1 1 every 1 at 0 on 0 ;", 1, 5);
        wrong("send 11 1 every 1 at 0 on 0;", 2, 5);
        wrong("send 1 11 every 1 at 0 on 0;", 2, 7);
        wrong("send 01 1 every 1 at 0 on 0;", 1, 10);
    }

    /** What is no NUMBER is no token of another kind either: not the end, not a word, not ";". */
    private void fiveDigits(String line) {
        String[] tokens = line.split(" ");
        for (int k = 0; k < tokens.length; k++) {
            for (int v = 0; v <= 20; v++) {
                String five = "000" + (v < 10 ? "0" : "") + v;
                StringBuilder text = new StringBuilder();
                int place = 0;
                for (int i = 0; i < tokens.length; i++) {
                    place = i == k ? text.length() : place;
                    text.append(i == k ? five : tokens[i]).append(' ');
                }
                wrong(text.toString(), 1, place);
            }
        }
        fine(line);
        wrong("00000", 1, 0);
        wrong(line + " 00000", 1, line.length() + 1);
        wrong(line + "12345", 1, line.length());
        wrong(line + "5", 1, line.length());
    }

    private void digitsOfEvents() {
        fine("at 0 busy 1 1;");
        fine("at 0000 busy 0001 0001;");
        wrong("at 00000 busy 1 1;", 1, 3);
        wrong("at 10000 busy 1 1;", 1, 3);
        wrong("at 09999 busy 1 1;", 1, 3);
        fine("at 9999 noise 0000 0999;");
        wrong("at 9999 noise 0 00999;", 1, 16);
        wrong("at 9999 noise 0 1000;", 2, 16);
        wrong("at 9999 noise 00000 1;", 1, 14);
    }

    /** "letters (a .. z, A .. Z) as many as stand together are the words told here or none" */
    private void words() {
        String[] line = {"send", " 1 1 1 ", "every", " 1 ", "at", " 0 ", "on", " 0;"};
        for (int k = 0; k < line.length; k += 2) {
            StringBuilder head = new StringBuilder();
            StringBuilder tail = new StringBuilder();
            for (int i = 0; i < line.length; i++) {
                (i < k ? head : tail).append(i == k ? "" : line[i]);
            }
            int place = head.length();
            String word = line[k];
            fine(head + word + tail);
            String cut = word.substring(0, word.length() - 1);
            for (String none : new String[] {cut, word + "s", "x" + word, word.toUpperCase(), cut + "Z", word + word, "power"}) {
                wrong(head + none + tail, 1, place);
            }
            wrong(head + cut + " " + word.charAt(word.length() - 1) + tail, 1, place);
        }
        fine("send1 1 1every1at0on0;");
        fine("hand1every1any on0;");
        wrong("hand1every1anyon0;", 1, 11);
        wrong("hand1every1at0on0;at", 1, 18);
        for (String kind : "send get pass all mode hand".split(" ")) {
            wrong(kind, 1, kind.length());
            wrong(kind + kind, 1, 0);
        }
    }

    /** "TOKENS, FAULTS as for THE TABLE (its own words alone)" */
    private void wordsOfEvents() {
        for (String which : "power busy service system flag accept deaf babble noise".split(" ")) {
            fine("at 1 " + which + " 1 1;");
            fine("at1" + which + "1 1;");
            for (String none : new String[] {which.substring(1), which + "s", which.toUpperCase(), which + which}) {
                wrong("at 1 " + none + " 1 1;", 1, 5);
            }
            wrong(which + " 1 1;", 1, 0);
            CommandBus b = new CommandBus();
            Kit.due(which + " is no word of THE TABLE", -1, Kit.table(b, "hand 1 every 1 " + which));
            Kit.due("place", 15, b.fault(1));
        }
        for (String none : "send get pass all mode hand every any on at".split(" ")) {
            wrong("at 1 " + none + " 1 1;", 1, 5);
            if (!none.equals("at")) {
                wrong(none + " 1 busy 1 1;", 1, 0);
            }
        }
    }

    /** ";" is the one sign that is a token; "Blanks (32, 10) between". */
    private void signs() {
        String line = "hand 1 every 1 at 0 on 0;";
        for (int v = 0; v < 256; v++) {
            boolean blank = v == 32 || v == 10;
            String text = line.substring(0, 6) + (char) v + line.substring(7);
            boolean digit = v >= '0' && v <= '9';
            boolean letter = v >= 'a' && v <= 'z' || v >= 'A' && v <= 'Z';
            if (blank) {
                fine(text);
            } else {
                wrong(text, digit ? 2 : 1, digit ? 5 : 6);
            }
            String behind = line.substring(0, 12) + (char) v + line.substring(13);
            if (blank || v == '0') {
                fine(behind);
            } else if (digit) {
                wrong(behind, 2, 12);
            } else {
                wrong(behind, 1, letter ? 7 : 12);
            }
        }
        fine("\n\n hand\n1\n \nevery 1 at\n0 on 0\n;\n ");
    }

    /** "1 what can't stand there (the end: the text's length)" */
    private void ends() {
        String line = "pass 1 1 2 1 1 every 8 at 7 on 1 ;";
        for (int n = 1; n < line.length(); n++) {
            String cut = line.substring(0, n);
            boolean inWord = Character.isLetter(cut.charAt(n - 1)) && Character.isLetter(line.charAt(n));
            wrong(cut, 1, inWord ? wordStart(cut) : n);
            wrong(cut + "  \n ", 1, inWord ? wordStart(cut) : n + 4);
        }
        fine(line);
        fine(line + "   ");
        wrong(line + ";", 1, line.length());
        wrong(line + " ;", 1, line.length() + 1);
        wrong(";", 1, 0);
        wrong(line + " 7", 1, line.length() + 1);
        wrong(line.replace(" ;", " 1;"), 1, 33);
    }

    private static int wordStart(String text) {
        int at = text.length();
        while (at > 0 && Character.isLetter(text.charAt(at - 1))) {
            at--;
        }
        return at;
    }

    private void endsOfEvents() {
        String[] lines = {"at 1 busy 1 1 ;", "at 1 noise 1 9 ;"};
        for (String line : lines) {
            for (int n = 1; n < line.length(); n++) {
                String cut = line.substring(0, n);
                boolean inWord = Character.isLetter(cut.charAt(n - 1)) && Character.isLetter(line.charAt(n));
                wrong(cut, 1, inWord ? wordStart(cut) : n);
                wrong(cut + " \n", 1, inWord ? wordStart(cut) : n + 2);
            }
            fine(line);
            wrong(line + ";", 1, line.length());
            wrong(line + "busy", 1, line.length());
        }
    }

    /** "24 LINES at most"; "3 (at its first token, if a LINE can begin so) the 25th LINE." */
    private void twentyFive(String line, String begins, String beginsNot) {
        read(line.repeat(23), 23, 0, -1);
        read(line.repeat(24), 24, 0, -1);
        read(line.repeat(24) + "   \n ", 24, 0, -1);
        int full = line.length() * 24;
        for (String word : begins.split(" ")) {
            wrong(line.repeat(24) + word, 3, full);
            wrong(line.repeat(24) + " \n" + word, 3, full + 2);
            wrong(line.repeat(24) + word + "@", 3, full);
            wrong(line.repeat(23) + " " + word, 1, full - line.length() + 1 + word.length());
        }
        wrong(line.repeat(25), 3, full);
        for (String word : beginsNot.split(" ")) {
            wrong(line.repeat(24) + word, 1, full);
        }
        wrong(line.repeat(24) + ";", 1, full);
        wrong(line.repeat(24) + "1", 1, full);
        wrong(line.repeat(24) + "@" + line, 1, full);
        wrong(line.repeat(24) + begins.split(" ")[0] + "x", 1, full);
        wrong(line.repeat(23) + line.replace("1;", "9;").replace("on0", "on9") + line, 2,
            full - 2);
        wrong("@" + line.repeat(25), 1, 0);
    }

    /** "FAULTS, the first by its place, at one place the least" */
    private void firstByPlace() {
        wrong("hand 9 every 3 at 9 on 2.", 2, 5);
        wrong("hand 1 every 3 at 9 on 2.", 2, 13);
        wrong("hand 1 every 2 at 9 on 2.", 2, 18);
        wrong("hand 1 every 2 at 1 on 2.", 2, 23);
        wrong("hand 1 every 2 at 1 on 1.", 1, 24);
        wrong("hand 1 evry 3 at 9 on 2.", 1, 7);
        wrong("hand 1 every 8 at 7 on 1; hand 9 @", 2, 31);
        wrong("hand 1 every 8 at 7 on 1; hand @ 9", 1, 31);
        wrong("hand 00009 every 3 at 9 on 2.", 1, 5);
        wrong("pass 8 1 8 1 1 every 1 at 0 on 0;", 2, 5);
        wrong("pass 1 1 00001 1 1 every 1 at 0 on 0;", 1, 9);
        wrong("pass 1 9 1 9 9 every 1 at 0 on 0;", 2, 7);
    }

    /** A text is read the same whatever was read ahead of it, right or wrong. */
    private static void behindAnother() {
        String[] tables = {"hand 1 every 2 at 1 on 0;", "hand 1 every 2 any on 1;", "mode 2 17 every 4 any on 0;", "mode 2 1 every 4 at 3 on 1;",
            "pass 1 2 3 4 8 every 8 any on 1;", "send 1 6 8 every 1 any on 0;", "all 6 1 every 8 at 7 on 0;", "get 7 6 8 every 8 any on 1;", ""};
        String[] ahead = {"pass 7 6 5 6 8 every 8 any on 1;pass 7 6 5 6 8 every 8 any on 1;", "mode 7 19 every 8 any on 1;",
            "mode 7 19 every 8 any on 9;", "hand 8 every 8 at 7 on 1;get 7 6 8 every", "@"};
        String[] events = {"at 9999 noise 1 999;at 9998 babble 7 3;", "at 1 power 8 1;", "at 2 deaf 0 0;", ""};
        for (String text : tables) {
            CommandBus plain = new CommandBus();
            Kit.table(plain, text + text);
            for (String other : ahead) {
                CommandBus b = new CommandBus();
                Kit.events(b, events[0]);
                Kit.table(b, other);
                Kit.table(b, text + text);
                sameLines(text + " behind " + other, plain, b);
            }
        }
        for (String text : events) {
            CommandBus plain = new CommandBus();
            Kit.events(plain, text);
            for (String other : ahead) {
                CommandBus b = new CommandBus();
                Kit.table(b, other);
                Kit.events(b, events[0]);
                Kit.events(b, text);
                sameEvents(text + " behind " + other, plain, b);
            }
        }
    }

    private static void sameLines(String name, CommandBus a, CommandBus b) {
        for (int i = 0; i < 3; i++) {
            for (int what = 0; what < 8; what++) {
                Kit.due("line " + i + " " + what + " of " + name, a.line(i, what), b.line(i, what));
            }
        }
        Kit.due("best of " + name, a.fits(1), b.fits(1));
    }

    private static void sameEvents(String name, CommandBus a, CommandBus b) {
        for (int i = 0; i < 3; i++) {
            for (int what = 0; what < 4; what++) {
                Kit.due("event " + i + " " + what + " of " + name, a.event(i, what), b.event(i, what));
            }
        }
    }
}
