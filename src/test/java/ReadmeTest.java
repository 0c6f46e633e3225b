/** The example of README.md: its calls answer what stands there behind them. */
public final class ReadmeTest {
    private ReadmeTest() {
    }

    public static void main(String[] args) {
        RodRings x = new RodRings();
        tell(x, "ring at 2 cloth 3; ring at 4 cloth 2 wood; chair 6");
        Check.same("pole", x.pole(), 1);
        Check.same("fault", x.fault(), RodRings.NONE);
        tell(x, "fade 2 if lit and not wood; fall 30 if hour > 5");
        Check.same("law", x.law(), 2);
        Check.same("sew", x.sew(6, 2), 2);
        Check.same("dark", x.dark(), 1);
        Check.same("pull", x.pull(2, true, 5), 5);
        Check.same("place", x.ring(0, 0), 6);
        Check.same("hours", x.hours(1), 0);
        Check.same("fade", x.ring(0, 4), 2);
        Check.yes("undo", x.undo());
        tell(x, "ring at 5");
        Check.failsArgument("pole", () -> x.pole());
        Check.same("fault", x.fault(), 8);
        Check.done("ReadmeTest");
    }

    /** As README.md tells it. */
    private static void tell(RodRings x, String text) {
        x.end(0);
        for (int from = 0; from < text.length(); from += 20) {
            int[] five = new int[5];
            for (int i = from; i < from + 20; i++) {
                five[(i - from) / 4] = five[(i - from) / 4] << 8 | (i < text.length() ? text.charAt(i) : 0);
            }
            x.feed(five[0], five[1], five[2], five[3], five[4]);
        }
        x.end(text.length());
    }
}
