/** The example of README.md, as it stands there. */
public final class ReadmeTest {
    public static void main(String[] args) {
        CommandBus bus = new CommandBus();
        bus.word(CommandBus.NONE, 1, 0, 4660);
        Kit.due("once", 0, bus.once(0, 0, 2, 1, 1));
        Kit.due("taken", 4660, bus.at(2, 1, 0, 1));
        put(bus, "send 2 1 1 every 1 at 0 on 0; get 3 2 2 every 2 any on 1; hand 5 every 8 at 1 on 0;\n");
        Kit.due("lines", 3, bus.table());
        put(bus, "at 7 power 3 0; at 9 noise 0 4;\n");
        Kit.due("events", 2, bus.events());
        put(bus, "send 2 1 1 every 1 at 0 on 0; hand 5 every 8 at 1 on 0;");
        Kit.due("lines", 2, bus.table());
        put(bus, "at 1 busy 2 1;");
        Kit.due("events", 1, bus.events());
        Kit.due("good", 1, bus.frame(3));
        Kit.due("latest", 4, bus.log(0, 4));
        Kit.finish();
    }

    private static void put(CommandBus bus, String text) {
        for (int at = 0; at < text.length(); at += 20) {
            int[] five = new int[5];
            for (int k = 0; k < 20; k++) {
                int sign = at + k < text.length() ? text.charAt(at + k) : ' ';
                five[k / 4] = five[k / 4] << 8 | sign;
            }
            bus.feed(five[0], five[1], five[2], five[3], five[4]);
        }
        bus.end(text.length());
    }
}
