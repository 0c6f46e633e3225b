/** Promises 15, 34, 35, 44 and 46 to 48: hours with draws, hours ahead, odds, trials and spans. */
public final class HoursTest {
    private HoursTest() {
    }

    public static void main(String[] args) {
        fading();
        clock();
        draws();
        catchesAndFalls();
        lawAsItIsThen();
        ahead();
        pale();
        odds();
        trialsAndSpans();
        spanOfSixSeeds();
        wrongNumbers();
        Check.done("HoursTest");
    }

    private static void fading() {
        RodRings x = Check.made("ring at 0 cloth 9;ring at 8 cloth 9;ring at 9 cloth 9 fade 98");
        Check.same("nothing happens to anybody but by draws", x.faded(0), 98);
        Check.law(x, "fade 3 if lit;fade 1 if hooked");
        x.hours(1);
        Check.same("lit", x.ring(0, 4), 4);
        Check.same("lit at the end", x.ring(1, 4), 4);
        Check.same("99 at most", x.ring(2, 4), 99);
        x.hours(1);
        Check.same("no more lit", x.ring(0, 4), 5);
        Check.same("lit", x.ring(1, 4), 8);
        x.hours(80);
        Check.same("99 at most", x.ring(0, 4), 99);
    }

    private static void clock() {
        RodRings x = Check.made("hour 6;day 999");
        x.hours(1);
        Check.same("hour 7", x.count(3), 7);
        Check.same("day", x.count(4), 999);
        x.hours(1);
        Check.same("hour 0", x.count(3), 0);
        Check.same("a day more", x.count(4), 1000);
        x.hours(80);
        Check.same("ten days", x.count(4), 1010);
        Check.same("hour 0", x.count(3), 0);
        RodRings y = Check.made("day 999");
        for (int i = 0; i < 450; i++) {
            y.hours(80);
        }
        Check.same("4500 days", y.count(4), 5499);
    }

    /** The draws as the document tells them. */
    private static int nextSeed(int seed) {
        return 1103515245 * seed + 12345;
    }

    private static int drawn(int seed) {
        return (seed >> 16 & 0x7fff) % 100;
    }

    private static void draws() {
        RodRings x = Check.made("ring at 0 cloth 9;ring at 2 cloth 9");
        Check.law(x, "");
        x.hours(3);
        int seed = 1;
        for (int i = 0; i < 6; i++) {
            seed = nextSeed(seed);
        }
        Check.same("two hooked ones draw each hour", x.seed(5), seed);
        Check.same("seed", x.seed(1), 5);
        x.pull(1, false, 1);
        x.hook(0, false);
        x.hours(1);
        Check.same("one beside, one hooked", x.seed(1), nextSeed(nextSeed(1)));
        x.snag(0);
        x.hook(1, false);
        x.hours(1);
        Check.same("caught and off: no draws", x.seed(1), 1);
        x.faded(40);
        x.ahead(0, 40);
        x.pale();
        x.trial(40, true);
        x.span(40, true);
        Check.same("none ahead, and nothing stays of trials", x.seed(-7), 1);
        Check.same("any int", x.seed(1), -7);
    }

    private static void catchesAndFalls() {
        RodRings x = Check.made("ring at 0 cloth 9;ring at 1 cloth 9;ring at 2 cloth 9;ring at 4 cloth 9");
        Check.law(x, "catch 100;fall 100 if ring > 2");
        Check.same("0 and 1 catch, 3 falls", x.hours(1), 3);
        Check.same("caught", x.caught(), 3);
        Check.same("loose", x.loose(), 8);
        Check.same("no more", x.hours(5), 0);
        Check.same("rows", x.count(9), 3);
        // The odds of each draw are told by its bound: it falls just if the draw is below.
        int first = drawn(nextSeed(1));
        RodRings y = Check.made("ring at 0 cloth 9");
        Check.law(y, "fall " + first);
        Check.same("not below", y.hours(1), 0);
        RodRings z = Check.made("ring at 0 cloth 9");
        Check.law(z, "fall " + (first + 1));
        Check.same("below", z.hours(1), 1);
        RodRings near = Check.made("ring at 0 cloth 9;ring at 1 cloth 9");
        Check.law(near, "catch " + first);
        Check.same("not below", near.hours(1), 0);
        near.seed(1);
        Check.law(near, "catch " + (first + 1));
        Check.same("below", near.hours(1), 1);
        int second = drawn(nextSeed(nextSeed(1)));
        RodRings w = Check.made("ring at 0 cloth 9;ring at 1 cloth 9");
        Check.law(w, "catch 0;fall " + (second + 1) + " if ring < 1");
        Check.same("the catch draws first", w.hours(1), 1);
        Check.same("fell", w.loose(), 1);
    }

    private static void lawAsItIsThen() {
        RodRings x = Check.made("ring at 0 cloth 9;ring at 1 cloth 9");
        Check.law(x, "fade 10;catch 100 if fade > 9;fall 100 if fade > 19 and hour > 0");
        Check.same("caught by its new fade", x.hours(1), 1);
        Check.same("fall in the next hour", x.hours(1), 2);
        RodRings y = Check.made("ring at 0 cloth 9;hour 7;day 3");
        Check.law(y, "fade 1 if day < 4;fade 10 if hour < 1");
        y.hours(2);
        Check.same("the day is 1 more behind hour 7", y.ring(0, 4), 11);
    }

    private static void ahead() {
        RodRings x = Check.made("ring at 0 cloth 9;ring at 1 cloth 9 fade 97;hour 0");
        Check.law(x, "fade 1;fade 2 if hour > 6;catch 100;fall 100");
        Check.same("0 hours", x.ahead(0, 0), 0);
        Check.same("7 hours", x.ahead(0, 7), 7);
        Check.same("8 hours", x.ahead(0, 8), 10);
        Check.same("80 hours", x.ahead(0, 80), 99);
        Check.same("all of 7 hours", x.faded(7), 106);
        Check.same("all of 0 hours", x.faded(0), 97);
        Check.same("nothing stays", x.ring(0, 4), 0);
        Check.same("nothing stays", x.count(3), 0);
        Check.same("nothing catches", x.caught(), 0);
        Check.law(x, "fade 1 if hooked");
        x.hook(0, false);
        Check.same("nobody hooked", x.ahead(0, 80), 0);
        Check.same("hooked", x.ahead(1, 1), 98);
    }

    private static void pale() {
        RodRings x = Check.made("ring at 0 cloth 9;ring at 1 cloth 9 fade 20");
        Check.law(x, "fade 1");
        Check.same("79", x.pale(), 79);
        x.hours(79);
        Check.same("now", x.pale(), 0);
        RodRings y = Check.made("ring at 0 cloth 9;ring at 1 cloth 9 fade 19");
        Check.law(y, "fade 1");
        Check.same("80", y.pale(), 80);
        RodRings z = Check.made("ring at 0 cloth 9;ring at 1 cloth 9 fade 18");
        Check.law(z, "fade 1");
        Check.same("not by 80", z.pale(), -1);
        Check.same("bare pole", new RodRings().pale(), -1);
    }

    private static void odds() {
        RodRings x = Check.made("ring at 0 cloth 9;ring at 1 cloth 9;ring at 2 cloth 9");
        Check.law(x, "fall 33;fall 67 if ring > 0;fall 9 if ring > 1");
        Check.same("0 hours", x.odds(0, 0), 10000);
        Check.same("1", x.odds(0, 1), 6700);
        Check.same("2", x.odds(0, 2), 4489);
        Check.same("3, rounded down", x.odds(0, 3), 3007);
        Check.same("4, rounded down each time", x.odds(0, 4), 2014);
        Check.same("100", x.odds(1, 1), 0);
        Check.same("100 at most", x.odds(2, 1), 0);
        Check.same("0 hours", x.odds(2, 0), 10000);
        Check.failsArgument("5", () -> x.odds(0, 5));
        Check.failsArgument("-1", () -> x.odds(0, -1));
        Check.failsIndex("no ring", () -> x.odds(3, 5));
    }

    private static void trialsAndSpans() {
        String text = "ring at 0 cloth 9;ring at 1 cloth 9;ring at 2 cloth 9;ring at 4 cloth 9;ring at 5 cloth 9";
        RodRings x = Check.made(text);
        Check.law(x, "catch 20;fall 15");
        int least = 100;
        int greatest = -1;
        for (int seed = 1; seed <= 6; seed++) {
            RodRings y = Check.made(text);
            Check.law(y, "catch 20;fall 15");
            y.seed(seed);
            y.hours(4);
            x.seed(seed);
            Check.same("trial", x.trial(4, false), y.caught());
            Check.same("trial", x.trial(4, true), y.loose());
            int both = Integer.bitCount(y.caught()) + Integer.bitCount(y.loose());
            least = Math.min(least, both);
            greatest = Math.max(greatest, both);
        }
        Check.same("nothing stays", x.caught() | x.loose() | x.count(3) | x.count(9), 0);
        Check.same("seed stays", x.seed(99), 6);
        Check.same("least", x.span(4, false), least);
        Check.same("greatest", x.span(4, true), greatest);
        Check.yes("they differ", least < greatest);
        x.hook(2, false);
        x.snag(0);
        Check.same("0 hours", x.trial(0, false), 1);
        Check.same("0 hours", x.trial(0, true), 4);
        Check.same("0 hours", x.span(0, false), 2);
        Check.same("0 hours", x.span(0, true), 2);
        Check.same("bare pole", new RodRings().span(80, true), 0);
        Check.same("bare pole", new RodRings().trial(80, true), 0);
    }

    /** One ring falls in its one hour just if its draw is below: so each of the six seeds tells. */
    private static void spanOfSixSeeds() {
        RodRings x = Check.made("ring at 0 cloth 9");
        for (int bound = 0; bound <= 100; bound++) {
            Check.law(x, "fall " + bound);
            int least = 1;
            int greatest = 0;
            for (int seed = 1; seed <= 6; seed++) {
                int falls = drawn(nextSeed(seed)) < bound ? 1 : 0;
                least = Math.min(least, falls);
                greatest = Math.max(greatest, falls);
            }
            Check.same("least below " + bound, x.span(1, false), least);
            Check.same("greatest below " + bound, x.span(1, true), greatest);
        }
    }

    private static void wrongNumbers() {
        RodRings x = Check.made("ring at 0 cloth 9");
        for (int n : new int[] {-1, 81}) {
            Check.failsArgument("hours", () -> x.hours(n));
            Check.failsArgument("faded", () -> x.faded(n));
            Check.failsArgument("ahead", () -> x.ahead(0, n));
            Check.failsArgument("trial", () -> x.trial(n, true));
            Check.failsArgument("span", () -> x.span(n, true));
            Check.failsIndex("ahead of none", () -> x.ahead(1, n));
        }
        Check.failsArgument("0 hours", () -> x.hours(0));
        Check.same("no act", x.count(10), 0);
        Check.same("hour", x.count(3), 0);
    }
}
