/** Promises 28 to 33, 36 to 43 and 45: what can be seen of the rings as they hang. */
public final class LooksTest {
    private LooksTest() {
    }

    public static void main(String[] args) {
        order();
        tight();
        slackAndTaut();
        lit();
        sunny();
        lets();
        envy();
        rests();
        bunch();
        sets();
        twins();
        barePole();
        Check.done("LooksTest");
    }

    /** Rings side by side with these fades. */
    private static RodRings withFades(int... fades) {
        StringBuilder text = new StringBuilder();
        for (int i = 0; i < fades.length; i++) {
            text.append(i == 0 ? "" : ";").append("ring at ").append(i).append(" cloth 1 fade ").append(fades[i]);
        }
        return Check.made(text.toString());
    }

    /** Rings side by side that are so long. */
    private static RodRings withLengths(int... lengths) {
        RodRings x = withFades(new int[lengths.length]);
        for (int i = 0; i < lengths.length; i++) {
            x.let(i, lengths[i]);
        }
        return x;
    }

    private static void order() {
        Check.same("rising", withFades(1, 2, 3, 4).order(), 0);
        Check.same("like ones may stay", withFades(5, 5, 5).order(), 0);
        Check.same("falling", withFades(9, 8, 7, 6, 5, 4, 3, 2).order(), 7);
        Check.same("mixed", withFades(3, 1, 4, 1, 5, 9, 2, 6).order(), 4);
        Check.same("one high ahead", withFades(99, 0, 0, 0).order(), 1);
    }

    private static void tight() {
        RodRings x = Check.made("ring at 0 cloth 9;ring at 4 cloth 9;ring at 6 cloth 9;ring at 8 cloth 9;ring at 15 cloth 1");
        Check.same("2", x.tight(2), 1);
        Check.same("3", x.tight(3), 1);
        Check.same("4", x.tight(4), 0);
        Check.same("5", x.tight(5), 0);
        Check.same("6", x.tight(6), -1);
        Check.same("8", x.tight(8), -1);
        Check.same("all 32 places", Check.made("ring at 0 cloth 9;ring at 9 cloth 9;ring at 18 cloth 9;ring at 27 cloth 9;"
                + "ring at 31 cloth 9").tight(5), 0);
        Check.failsArgument("1", () -> x.tight(1));
        Check.failsArgument("9", () -> x.tight(9));
    }

    private static void slackAndTaut() {
        RodRings x = Check.made("ring at 0 cloth 4;ring at 4 cloth 9;ring at 6 cloth 2;ring at 8 cloth 5");
        Check.same("slack, the last one not", x.slack(), 7);
        Check.same("taut, the last one not", x.taut(), 5);
        Check.same("one alone", Check.made("ring at 0 cloth 4").slack(), 0);
        Check.same("one alone", Check.made("ring at 0 cloth 4").taut(), 0);
    }

    private static void lit() {
        RodRings x = Check.made("ring at 3 cloth 9;ring at 4 cloth 9;ring at 10 cloth 9;ring at 11 cloth 9;wide 6");
        Check.same("hour 0", x.lit(0), 3);
        Check.same("hour 1, both ends", x.lit(1), 6);
        Check.same("hour 2", x.lit(2), 12);
        Check.same("hour 3", x.lit(3), 0);
        Check.failsIndex("hour 8", () -> x.lit(8));
        Check.failsIndex("hour -1", () -> x.lit(-1));
        RodRings y = Check.made("ring at 31 cloth 9;wide 31");
        Check.same("31 in hour 0", y.lit(0), 1);
        Check.same("31 in hour 7", y.lit(7), 1);
        RodRings z = Check.made("ring at 27 cloth 1;ring at 28 cloth 3;ring at 29 cloth 3;wide 0");
        Check.same("one place alone", z.lit(7), 2);
    }

    private static void sunny() {
        Check.same("of several the least", Check.made("ring at 3 cloth 9;ring at 8 cloth 9;ring at 9 cloth 9").sunny(), 1);
        Check.same("wide sun", Check.made("ring at 3 cloth 9;ring at 8 cloth 9;ring at 12 cloth 9;wide 31").sunny(), 2);
        Check.same("none is lit: the least", Check.made("ring at 1 cloth 9;ring at 2 cloth 9;wide 0").sunny(), 0);
    }

    private static void lets() {
        RodRings x = withLengths(9, 0, 5);
        Check.same("14 of 3", x.lets(0, 9), 5);
        Check.same("14 of 3", x.lets(1, 9), 5);
        Check.same("14 of 3", x.lets(2, 9), 4);
        Check.same("5 at most", x.lets(2, 5), 4);
        Check.same("some more than 4", x.lets(2, 4), -1);
        Check.same("even", withLengths(3, 3).lets(1, 3), 3);
        Check.same("none", withLengths(0, 0).lets(1, 0), 0);
        Check.failsArgument("10", () -> x.lets(0, 10));
        Check.failsArgument("-1", () -> x.lets(0, -1));
        Check.failsIndex("no ring", () -> x.lets(3, 10));
        Check.same("nothing stays", x.ring(0, 5), 9);
    }

    private static void envy() {
        Check.same("all", withLengths(2, 0, 5, 0).envy(), 3);
        Check.same("by 1", withLengths(2, 1, 2, 3).envy(), 0);
        Check.same("by 2", withLengths(2, 4, 2).envy(), 2);
        Check.same("only next ones", withLengths(0, 1, 2).envy(), 0);
    }

    private static void rests() {
        RodRings x = Check.made("ring at 0 cloth 9;ring at 1 cloth 9;ring at 3 cloth 9;ring at 6 cloth 9;ring at 10 cloth 9");
        Check.same("gap 1", x.rests(0), 9);
        Check.same("gap 2", x.rests(1), 9);
        Check.same("gap 3: all but apart", x.rests(2), 13);
        Check.same("gap 4: towards each other", x.rests(3), 4);
        Check.same("the last one", x.rests(4), -1);
        x.snag(2);
        Check.same("caught", x.rests(2), 13);
        Check.failsIndex("no ring", () -> x.rests(5));
        Check.failsIndex("no ring", () -> x.rests(-1));
    }

    private static void bunch() {
        RodRings x = Check.made("ring at 0 cloth 9;ring at 1 cloth 9;ring at 3 cloth 9;ring at 4 cloth 9;"
                + "ring at 5 cloth 9;ring at 9 cloth 9");
        Check.same("3", x.bunch(), 3);
        Check.same("one alone", Check.made("ring at 0 cloth 9").bunch(), 1);
        Check.same("apart", Check.made("ring at 0 cloth 9;ring at 2 cloth 9").bunch(), 1);
        Check.same("all", withFades(0, 0, 0, 0, 0, 0, 0, 0).bunch(), 8);
        x.pull(5, false, 31);
        Check.same("4", x.bunch(), 6);
    }

    private static void sets() {
        RodRings x = Check.made("ring at 0 cloth 9 wood;ring at 5 cloth 9 thick;ring at 7 cloth 9 thick wood;"
                + "ring at 8 cloth 9 thick;ring at 9 cloth 9;caught 0;caught 3;join 7");
        Check.same("wooden", x.wooden(), 5);
        Check.same("caught", x.caught(), 9);
        Check.same("beyond", x.beyond(), 12);
        Check.same("loose", x.loose(), 0);
        x.hook(4, false);
        x.hook(0, false);
        Check.same("loose", x.loose(), 17);
    }

    private static void twins() {
        RodRings x = Check.made("ring at 0 cloth 3 fade 2 long 1;ring at 1 cloth 3 thick wood fade 2 long 1;"
                + "ring at 2 cloth 3 fade 2 long 1;ring at 3 cloth 3 fade 3 long 1;ring at 4 cloth 4 fade 2 long 1;"
                + "ring at 5 cloth 3 fade 2");
        Check.same("three alike", x.twins(), 3);
        x.let(5, 1);
        Check.same("four alike", x.twins(), 6);
        x.let(0, 2);
        Check.same("three again", x.twins(), 3);
    }

    private static void barePole() {
        RodRings x = new RodRings();
        Check.same("order", x.order(), 0);
        Check.same("tight", x.tight(2), -1);
        Check.same("slack", x.slack(), 0);
        Check.same("taut", x.taut(), 0);
        Check.same("lit", x.lit(0), 0);
        Check.same("sunny", x.sunny(), -1);
        Check.same("envy", x.envy(), 0);
        Check.same("bunch", x.bunch(), 0);
        Check.same("wooden", x.wooden(), 0);
        Check.same("caught", x.caught(), 0);
        Check.same("loose", x.loose(), 0);
        Check.same("beyond", x.beyond(), 0);
        Check.same("twins", x.twins(), 0);
        Check.failsIndex("lets", () -> x.lets(0, 1));
        Check.failsIndex("rests", () -> x.rests(0));
    }
}
