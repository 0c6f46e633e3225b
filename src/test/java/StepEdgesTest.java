/** The edges that the second part of the terms names: steps, pulls, hours, draws, acts and the log. */
public final class StepEdgesTest {
    private static final String EIGHT = Check.rings(0, 1, 2, 3, 4, 5, 6, 7);

    private StepEdgesTest() {
    }

    public static void main(String[] args) {
        justBeside();
        caughtOnIt();
        fartherThanCloth();
        byAndBy();
        leavesThePole();
        overTheJoin();
        nobodyGoes();
        noiseOfEach();
        noiseAtMost();
        tillOneFails();
        fadeAtMost();
        drawsOfCatches();
        drawsOfFalls();
        belowTheLaw();
        asItIsThen();
        hourBehindSeven();
        seedGoesRound();
        bitsOfADraw();
        aheadByHours();
        actsThatChangeNothing();
        latestSixty();
        rowsOfTheLog();
        Check.done("StepEdgesTest");
    }

    private static void places(String what, RodRings x, int... due) {
        for (int i = 0; i < due.length; i++) {
            Check.same(what + ", place of " + i, x.ring(i, 0), due[i]);
        }
    }

    /** The RING next to one that goes, on the side to which it goes, if it is just beside it (GAP 1). */
    private static void justBeside() {
        RodRings x = Check.made(Check.rings(10, 11, 13));
        Check.same("gap 1 ahead", x.with(0, true), 3);
        Check.same("gap 2 ahead", x.with(1, true), 2);
        Check.same("gap 2 ahead, to the left", x.with(2, false), 4);
        Check.same("gap 1 ahead, to the left", x.with(1, false), 3);
        Check.same("gap 1 behind stays", x.with(0, false), 1);
    }

    /** One that is CAUGHT on one that goes, or on which one that goes is CAUGHT. */
    private static void caughtOnIt() {
        RodRings x = Check.made(Check.rings(10, 13, 16, 19) + ";caught 1");
        for (int side = 0; side < 2; side++) {
            Check.same("the one that is caught", x.with(1, side == 1), 6);
            Check.same("the one on which it is", x.with(2, side == 1), 6);
            Check.same("the one ahead is not caught", x.with(0, side == 1), 1);
            Check.same("nor the one behind", x.with(3, side == 1), 8);
        }
    }

    /** The RING next to one that goes, on the other side, if it would be farther from it than the CLOTH between them
        (of the left one of both). */
    private static void fartherThanCloth() {
        RodRings x = Check.made("ring at 10 cloth 2;ring at 12 cloth 5;ring at 16 cloth 1");
        Check.same("taut, to the right", x.with(1, true), 3);
        Check.same("taut, to the left", x.with(0, false), 3);
        Check.same("one less than taut", x.with(2, true), 4);
        Check.same("one less than taut, to the left", x.with(1, false), 2);
        x.pull(2, true, 1);
        Check.same("now taut", x.with(2, true), 7);
        Check.same("now taut, to the left", x.with(1, false), 6);
        Check.same("cloth 9", Check.made(Check.rings(10, 19)).with(1, true), 3);
        Check.same("cloth 9 but 8", Check.made(Check.rings(10, 18)).with(1, true), 2);
    }

    /** With it go, by and by: through all eight, pushed, drawn and caught. */
    private static void byAndBy() {
        RodRings pushed = Check.made(EIGHT);
        Check.same("all pushed", pushed.with(0, true), 255);
        pushed.pull(0, true, 31);
        places("at the end", pushed, 24, 25, 26, 27, 28, 29, 30, 31);
        Check.same("all pushed back", pushed.with(7, false), 255);
        RodRings drawn = Check.made("ring at 2 cloth 2;ring at 4 cloth 2;ring at 6 cloth 2;ring at 8 cloth 2;"
                + "ring at 10 cloth 2;ring at 12 cloth 2;ring at 14 cloth 2;ring at 16 cloth 2");
        Check.same("all drawn", drawn.with(7, true), 255);
        Check.same("all drawn to the left", drawn.with(0, false), 255);
        Check.same("from the middle", drawn.with(3, true), 15);
        Check.same("from the middle to the left", drawn.with(3, false), 0xf8);
        RodRings mixed = Check.made("ring at 2 cloth 3;ring at 5 cloth 9;ring at 8 cloth 9;ring at 9 cloth 9;caught 1");
        Check.same("drawn, caught and pushed", mixed.with(1, true), 15);
        Check.same("caught alone", mixed.with(1, false), 6);
    }

    /** If one of all these would leave the POLE, nobody goes. */
    private static void leavesThePole() {
        RodRings x = Check.made(Check.rings(0, 1, 10));
        Check.same("itself at 0", x.pull(0, false, 1), 0);
        Check.same("one ahead at 0", x.pull(1, false, 1), 0);
        RodRings y = Check.made(Check.rings(21, 30, 31));
        Check.same("itself at 31", y.pull(2, true, 1), 0);
        Check.same("one ahead at 31", y.pull(1, true, 1), 0);
        Check.same("till just beside it", y.pull(0, true, 31), 8);
        RodRings z = Check.made(Check.rings(0, 5) + ";caught 0");
        Check.same("one caught on it at 0", z.pull(1, false, 1), 0);
        Check.same("to the right they go", z.pull(0, true, 31), 26);
        Check.same("one at 31 on which it is caught", z.pull(0, true, 1), 0);
    }

    /** Or is THICK and would go over the JOIN. */
    private static void overTheJoin() {
        RodRings itself = Check.made("ring at 7 cloth 9 thick;join 8");
        Check.same("itself", itself.pull(0, true, 1), 0);
        RodRings pushed = Check.made("ring at 6 cloth 9;ring at 7 cloth 9 thick;join 8");
        Check.same("pushed", pushed.pull(0, true, 1), 0);
        RodRings drawn = Check.made("ring at 7 cloth 2 thick;ring at 9 cloth 9;join 8");
        Check.same("drawn", drawn.pull(1, true, 1), 0);
        RodRings caught = Check.made("ring at 7 cloth 9 thick;ring at 9 cloth 9;join 8;caught 0");
        Check.same("caught", caught.pull(1, true, 1), 0);
        RodRings back = Check.made("ring at 5 cloth 3;ring at 8 cloth 9 thick;ring at 9 cloth 9;join 8");
        Check.same("itself, to the left", back.pull(1, false, 1), 0);
        Check.same("pushed, to the left", back.pull(2, false, 1), 0);
        Check.same("drawn, to the left", back.pull(0, false, 1), 0);
        Check.same("one farther right comes up to it", Check.made("ring at 9 cloth 9 thick;join 8").pull(0, false, 9), 1);
        Check.same("one farther left comes up to it", Check.made("ring at 6 cloth 9 thick;join 8").pull(0, true, 9), 1);
    }

    /** Nobody goes: no PLACE, and no NOISE. */
    private static void nobodyGoes() {
        RodRings x = Check.made("ring at 0 cloth 9;ring at 3 cloth 9;ring at 4 cloth 9;caught 0");
        Check.same("cannot", x.with(2, false), 0);
        Check.same("cannot", x.pull(2, false, 31), 0);
        places("as they were", x, 0, 3, 4);
        Check.same("no noise", x.count(8), 0);
    }

    /** NOISE is 1 more for each that is not WOOD. */
    private static void noiseOfEach() {
        RodRings x = Check.made("ring at 0 cloth 1 wood;ring at 1 cloth 1 wood;ring at 2 cloth 9;ring at 9 cloth 9");
        x.pull(0, true, 1);
        Check.same("one of three", x.count(8), 1);
        x.pull(3, true, 2);
        Check.same("one by two steps", x.count(8), 3);
        RodRings wood = Check.made("ring at 0 cloth 1 wood;ring at 1 cloth 1 wood");
        wood.pull(0, true, 31);
        Check.same("wood alone", wood.count(8), 0);
    }

    /** 9999 at most: in the midst of a PULL, too. */
    private static void noiseAtMost() {
        RodRings x = Check.made("ring at 0 cloth 1;ring at 1 cloth 1;ring at 2 cloth 1;ring at 3 cloth 1;"
                + "ring at 4 cloth 1;ring at 5 cloth 1;ring at 6 cloth 1;ring at 7 cloth 1");
        for (int i = 0; i < 52; i++) {
            x.pull(0, i % 2 == 0, 24);
        }
        Check.same("just below", x.count(8), 9984);
        x.pull(0, true, 1);
        Check.same("8 more", x.count(8), 9992);
        x.pull(0, true, 1);
        Check.same("not 10000", x.count(8), 9999);
        Check.same("it goes on", x.pull(0, true, 3), 3);
        Check.same("9999 still", x.count(8), 9999);
        x.undo();
        x.undo();
        Check.same("as ahead of it", x.count(8), 9992);
    }

    /** A PULL of a RING by N: so many STEPS, till one fails: how many it went. */
    private static void tillOneFails() {
        RodRings x = Check.made(Check.rings(2, 5));
        Check.same("in full", x.pull(0, false, 1), 1);
        Check.same("till the end", x.pull(0, false, 31), 1);
        Check.same("fails at once", x.pull(0, false, 31), 0);
        Check.same("just in full", x.pull(1, true, 26), 26);
        places("drawn in the end", x, 22, 31);
    }

    /** FADE is what it FADES by more (99 at most). */
    private static void fadeAtMost() {
        RodRings x = Check.made("ring at 0 cloth 9 fade 97;ring at 1 cloth 9 fade 98;ring at 2 cloth 9 fade 99;"
                + "ring at 3 cloth 9");
        Check.law(x, "fade 1");
        x.hours(1);
        int[] due = {98, 99, 99, 1};
        for (int i = 0; i < 4; i++) {
            Check.same("by 1", x.ring(i, 4), due[i]);
        }
        Check.law(x, "fade 100;fade 100");
        x.hours(1);
        Check.same("by 200", x.ring(3, 4), 99);
    }

    private static int after(int draws, int seed) {
        int s = seed;
        for (int i = 0; i < draws; i++) {
            s = 1103515245 * s + 12345;
        }
        return s;
    }

    /** Then each RING with GAP 1 that is not CAUGHT, by numbers. */
    private static void drawsOfCatches() {
        RodRings x = Check.made(Check.rings(0, 1, 3, 4, 5) + ";caught 2");
        Check.law(x, "");
        for (int i = 0; i < 5; i++) {
            x.hook(i, false);
        }
        x.hours(1);
        Check.same("0 and 3 draw; gap 2, a caught one and the last one do not", x.seed(1), after(2, 1));
        Check.law(x, "catch 100");
        Check.same("0 and 3 catch", x.hours(1), 2);
        Check.same("caught", x.caught(), 13);
        Check.same("they drew", x.seed(1), after(2, 1));
        Check.same("none is left", x.hours(1), 0);
        Check.same("no draws", x.seed(1), 1);
    }

    /** Then each RING that is HOOKED, by numbers. */
    private static void drawsOfFalls() {
        RodRings x = Check.made(Check.rings(0, 2, 4, 6, 8, 10, 12, 14));
        Check.law(x, "");
        x.hook(3, false);
        x.hook(0, false);
        x.hours(1);
        Check.same("six draw", x.seed(1), after(6, 1));
        Check.law(x, "fall 100");
        Check.same("six fall", x.hours(1), 6);
        Check.same("all are loose", x.loose(), 255);
        Check.same("they drew", x.seed(1), after(6, 1));
        Check.same("none is left", x.hours(80), 0);
        Check.same("no draws", x.seed(1), 1);
    }

    /** If DRAW modulo 100 is below what it CATCHES by, FALLS by. */
    private static void belowTheLaw() {
        for (int seed = 1; seed < 40; seed++) {
            int first = (after(1, seed) >>> 16 & 32767) % 100;
            int second = (after(2, seed) >>> 16 & 32767) % 100;
            for (int more = 0; more < 2; more++) {
                RodRings x = Check.made(Check.rings(0, 1));
                Check.law(x, "catch " + (first + more) + ";fall " + (second + more) + " if ring < 1");
                x.seed(seed);
                Check.same("seed " + seed + " more " + more, x.hours(1), 2 * more);
                Check.same("caught", x.caught(), more);
                Check.same("loose", x.loose(), more);
            }
        }
        RodRings never = Check.made(Check.rings(0, 1));
        Check.law(never, "catch 0;fall 0");
        Check.same("0 never", never.hours(80), 0);
        RodRings always = Check.made(Check.rings(0, 1));
        Check.law(always, "catch 100;fall 100");
        Check.same("100 always", always.hours(1), 3);
    }

    /** Each by all as it is then. */
    private static void asItIsThen() {
        RodRings x = Check.made(Check.rings(0, 1) + ";hour 7;day 4");
        Check.law(x, "fade 5;catch 100 if fade > 4 and hour > 6 and day < 5;fall 100 if fade > 4 and hour < 1 and day > 4");
        Check.same("faded ahead of the catch, and the hour is the old one", x.hours(1), 1);
        Check.same("loose", x.loose(), 0);
        Check.same("both fall in the next one", x.hours(1), 2);
        RodRings y = Check.made(Check.rings(0, 1));
        Check.law(y, "fade 1 if hooked;fall 100");
        y.hours(3);
        Check.same("it fell behind fading", y.ring(0, 4), 1);
    }

    /** HOUR is 1 more; behind 7 it is 0, and DAY is 1 more. */
    private static void hourBehindSeven() {
        RodRings x = new RodRings();
        for (int i = 1; i <= 17; i++) {
            x.hours(1);
            Check.same("hour", x.count(3), i % 8);
            Check.same("day", x.count(4), i / 8);
        }
        x.hours(80);
        Check.same("hour", x.count(3), 1);
        Check.same("day", x.count(4), 12);
        RodRings y = Check.made("hour 7;day 999");
        y.hours(1);
        Check.same("hour", y.count(3), 0);
        Check.same("day", y.count(4), 1000);
        // 9999 days cannot be reached: a text tells 999 at most, and 512 calls of 80 hours are 5120 days.
        for (int i = 0; i < 500; i++) {
            y.hours(80);
        }
        Check.same("the latest that can be", y.count(4), 6000);
    }

    /** SEED is 1103515245 times SEED and 12345, as an int that goes round. */
    private static void seedGoesRound() {
        for (int seed : new int[] {0, 1, -1, Integer.MAX_VALUE, Integer.MIN_VALUE, 65535, 65536, 123456789}) {
            RodRings x = Check.made("ring at 0 cloth 1");
            Check.law(x, "");
            Check.same("SEED 1 at first", x.seed(seed), 1);
            x.hours(1);
            int due = (int) ((1103515245L * seed + 12345L) & 0xffffffffL);
            Check.same("from " + seed, x.seed(0), due);
            Check.same("told anew", x.seed(0), 0);
        }
    }

    /** Bits 16 to 30: bit 31 counts for nothing, so a draw is never below 0. */
    private static void bitsOfADraw() {
        int negative = 0;
        for (int seed = 1; seed < 60; seed++) {
            int next = after(1, seed);
            negative += next < 0 ? 1 : 0;
            int due = (next >>> 16) % 32768 % 100;
            RodRings x = Check.made("ring at 0 cloth 1");
            Check.law(x, "fall " + due);
            x.seed(seed);
            Check.same("not below " + due, x.hours(1), 0);
            Check.law(x, "fall " + (due + 1));
            x.seed(seed);
            Check.same("below " + (due + 1), x.hours(1), 1);
        }
        Check.yes("some have bit 31", negative > 10);
    }

    /** AHEAD by N HOURS (0 to 80): as so many HOURS in which nothing catches or falls (no DRAWS). */
    private static void aheadByHours() {
        RodRings x = Check.made(Check.rings(0, 1) + ";hour 5;day 2");
        Check.law(x, "fade 1 if hooked;fade 1 if gap < 2;fade 20 if day > 11 and hour > 3;catch 100;fall 100");
        Check.same("0 hours", x.ahead(0, 0), 0);
        Check.same("1 hour", x.ahead(0, 1), 2);
        Check.same("2 hours", x.ahead(1, 2), 2);
        Check.same("79 hours", x.ahead(1, 79), 79);
        Check.same("80 hours: its last is hour 4 of day 12", x.ahead(1, 80), 99);
        Check.same("no draws", x.seed(1), 1);
        Check.same("nothing stays", x.ring(0, 4) + x.caught() + x.loose() + x.count(9) + x.count(10), 0);
        Check.same("nothing stays", x.count(3), 5);
        Check.same("nothing stays", x.count(4), 2);
    }

    /** ACTS (each also if it changes nothing). */
    private static void actsThatChangeNothing() {
        RodRings x = Check.made(Check.rings(0, 9));
        String before = Check.hanging(x);
        x.hook(0, true);
        x.let(0, 0);
        x.chair(3, false);
        Check.same("three", x.count(10), 3);
        Check.yes("nothing changed", before.equals(Check.hanging(x)));
        Check.same("a pull that goes nowhere", x.pull(0, false, 5), 0);
        Check.same("four", x.count(10), 4);
        Check.same("is in the log", x.count(9), 1);
        for (int i = 3; i >= 0; i--) {
            Check.yes("undone", x.undo());
            Check.same("less one", x.count(10), i);
        }
        Check.yes("as it was", before.equals(Check.hanging(x)));
    }

    /** THE LOG: the latest 60. */
    private static void latestSixty() {
        RodRings x = Check.made("ring at 0 cloth 9");
        for (int i = 1; i <= 59; i++) {
            x.pull(0, i % 2 == 1, 1);
            Check.same("rows", x.count(9), i);
        }
        Check.same("the first is there", x.log(58, 5), 1);
        Check.same("none behind it", x.log(59, 5), -1);
        x.pull(0, false, 3);
        Check.same("60", x.count(9), 60);
        Check.same("the first is there", x.log(59, 5), 1);
        x.pull(0, true, 31);
        Check.same("60 still", x.count(9), 60);
        Check.same("the first is gone", x.log(59, 5), 0);
        Check.same("the latest", x.log(0, 4), 31);
        Check.same("the latest", x.log(0, 5), 31);
        Check.same("the one ahead of it", x.log(1, 4), 1);
        Check.same("none", x.log(60, 5), -1);
        Check.same("led by 60", x.led(0, false), 60);
        RodRings y = Check.made(EIGHT);
        Check.law(y, "catch 100;fall 100");
        for (int i = 0; i < 5; i++) {
            Check.same("15 rows each time", y.hours(1), 15);
            Check.same("60 at most", y.count(9), Math.min(60, 15 * (i + 1)));
            for (int ring = 0; ring < 8; ring++) {
                y.hook(ring, true);
                if (ring < 7) {
                    y.free(ring);
                }
            }
        }
        Check.same("the oldest is of the second hour", y.log(59, 1), 1);
    }

    /** DAY, HOUR (ahead of its being 1 more), the RING, 0 to 2, how far it went (0 of 1, 2), the PLACE then. */
    private static void rowsOfTheLog() {
        RodRings x = Check.made(Check.rings(23, 24, 25, 26, 27, 28, 29, 30) + ";hour 7;day 999");
        x.pull(7, true, 31);
        Check.law(x, "catch 100 if ring > 5 or hour < 7;fall 100 if ring > 6 and hour < 1");
        x.pull(7, false, 1);
        x.hours(1);
        x.hours(1);
        int[][] due = {{1000, 0, 7, 2, 0, 30}, {1000, 0, 5, 1, 0, 28}, {1000, 0, 4, 1, 0, 27}, {1000, 0, 3, 1, 0, 26},
            {1000, 0, 2, 1, 0, 25}, {1000, 0, 1, 1, 0, 24}, {1000, 0, 0, 1, 0, 23}, {999, 7, 6, 1, 0, 29},
            {999, 7, 7, 0, 1, 30}, {999, 7, 7, 0, 1, 31}};
        for (int ago = 0; ago < due.length; ago++) {
            for (int what = 0; what < 6; what++) {
                Check.same("row " + ago + " what " + what, x.log(ago, what), due[ago][what]);
            }
        }
        Check.same("no more rows", x.count(9), due.length);
    }
}
