/** Promises 16 to 18, 21 to 27: shade, the pulls that make it, and which rings have caught. */
public final class ShadeTest {
    private ShadeTest() {
    }

    public static void main(String[] args) {
        shade();
        would();
        best();
        fewest();
        snags();
        tries();
        wrongRows();
        loosen();
        Check.done("ShadeTest");
    }

    private static void shade() {
        RodRings x = Check.made("ring at 0 cloth 3;ring at 2 cloth 9;ring at 9 cloth 1;ring at 10 cloth 9;"
                + "chair 1;chair 5;chair 11;chair 31");
        Check.same("shade", x.shade(), 0x7ff);
        Check.same("dark", x.dark(), 2);
        Check.same("bare", x.bare(), 1 << 11 | 1 << 31);
        x.hook(1, false);
        Check.same("two panels fall", x.shade(), 0x600);
        Check.same("dark", x.dark(), 0);
        Check.same("bare", x.bare(), x.count(7));
        x.hook(1, true);
        x.hook(3, false);
        Check.same("the last panel", x.shade(), 0x3ff);
        RodRings one = Check.made("ring at 5 cloth 3;chair 5");
        Check.same("one alone", one.shade(), 0);
        Check.same("bare pole", new RodRings().shade(), 0);
        RodRings far = Check.made("ring at 22 cloth 9;ring at 31 cloth 9");
        Check.same("bit 31", far.shade(), 0xffc00000);
    }

    private static void would() {
        RodRings x = Check.made("ring at 2 cloth 9;ring at 4 cloth 9;chair 8;chair 3");
        Check.same("reached", x.would(1, true, 4, false), 2);
        Check.same("not yet", x.would(1, true, 3, false), 1);
        Check.same("lost", x.would(0, true, 5, false), 1);
        Check.same("more than can be", x.would(1, true, 31, true), 27 + 20);
        Check.same("nothing stays", x.ring(1, 0), 4);
        x.pull(1, true, 2);
        Check.same("only what this one makes", x.would(1, true, 3, true), 3);
        x.undo();
        Check.failsArgument("0", () -> x.would(1, true, 0, false));
        Check.failsArgument("32", () -> x.would(1, true, 32, false));
        Check.failsIndex("no ring", () -> x.would(2, true, 0, false));
        Check.same("no act", x.count(10), 0);
    }

    private static void best() {
        RodRings x = Check.made("ring at 2 cloth 9;ring at 4 cloth 9;chair 8;chair 3;chair 0");
        Check.same("ring 0 left by 2 makes 2 as well as ring 1 right by 4", x.best(), 2);
        x.chair(7, true);
        Check.same("ring 1 right by 4 makes 3", x.best(), 64 + 32 + 4);
        x.chair(5, true);
        x.chair(6, true);
        Check.same("five in all", x.best(), 64 + 32 + 4);
        Check.same("none", Check.made("ring at 2 cloth 9;ring at 4 cloth 9;chair 3").best(), -1);
        Check.same("bare pole", new RodRings().best(), -1);
    }

    private static void fewest() {
        RodRings x = Check.made("ring at 10 cloth 9;ring at 12 cloth 9");
        Check.same("now", x.fewest(7 << 10), 0);
        Check.same("none of it", x.first(7 << 10), -1);
        Check.same("nothing told", x.fewest(0), 0);
        Check.same("right", x.fewest(1 << 14), 2);
        Check.same("by ring 1", x.first(1 << 14), 3);
        Check.same("left", x.fewest(1 << 7), 3);
        Check.same("by ring 0", x.first(1 << 7), 0);
        Check.same("both ends cannot", x.fewest(1 << 7 | 1 << 14), -1);
        Check.same("both ends cannot", x.first(1 << 7 | 1 << 14), -1);
        Check.same("place 31", x.fewest(1 << 31), 19);
        Check.same("place 31", x.first(1 << 31), 3);
        RodRings y = Check.made("ring at 10 cloth 2;ring at 12 cloth 9");
        Check.same("either ring, the least", y.first(1 << 13), 3);
        y.snag(0);
        Check.same("now both rings go", y.first(1 << 13), 1);
        Check.same("by one step", y.fewest(1 << 13), 1);
        Check.same("bare pole", new RodRings().fewest(1), -1);
        Check.same("bare pole, nothing told", new RodRings().fewest(0), 0);
    }

    private static RodRings three() {
        return Check.made("ring at 0 cloth 9;ring at 2 cloth 9;ring at 5 cloth 9");
    }

    private static void snags() {
        RodRings x = three();
        Check.feed(x);
        Check.same("nothing told: all fit", x.snags(false), 4);
        Check.feed(x);
        Check.same("none is in all", x.snags(true), 0);
        Check.feed(x, 1, 0, 31, 0);
        Check.same("ring 1 cannot go left: caught on by 0", x.snags(false), 2);
        Check.feed(x, 1, 0, 31, 0);
        Check.same("ring 0 for sure", x.snags(true), 1);
        Check.feed(x, 1, 0, 31, 0, 2, 0, 31, 0);
        Check.same("both", x.snags(true), 3);
        Check.no("used up", x.end(1));
        Check.feed(x, 1, 0, 31, 1);
        Check.same("not caught", x.snags(false), 2);
        Check.feed(x, 1, 0, 31, 2);
        Check.same("can never be", x.snags(false), 0);
        Check.feed(x, 1, 0, 31, 2);
        Check.same("without", x.snags(true), 0);
        Check.feed(x, 1, 0, 3, 4);
        Check.same("farther than pulled", x.snags(false), 0);
        x.snag(0);
        Check.feed(x, 1, 0, 1, 1);
        Check.same("in place of those that are", x.snags(false), 2);
        Check.same("nothing stays", x.caught(), 1);
        Check.same("nothing stays", x.ring(1, 0), 2);
        Check.feed(x, 0, 1, 31, 27);
        Check.same("ring 1 alone", x.snags(false), 1);
        RodRings even = Check.made("ring at 0 cloth 9;ring at 2 cloth 9;ring at 4 cloth 9");
        Check.feed(even, 0, 1, 31, 28);
        Check.same("one of two", even.snags(false), 2);
        Check.feed(even, 0, 1, 31, 28);
        Check.same("neither for sure", even.snags(true), 0);
        RodRings one = Check.made("ring at 0 cloth 9");
        Check.feed(one, 0, 1, 31, 31);
        Check.same("31 steps", one.snags(false), 1);
        RodRings bare = new RodRings();
        Check.feed(bare);
        Check.same("bare pole: the empty set", bare.snags(false), 1);
        Check.same("fault is of texts alone", x.fault(), -1);
    }

    private static void tries() {
        RodRings x = three();
        Check.feed(x);
        // Ring 0 cannot go left; to the right it goes 29, 28 (0 on 1), 27 (1 on 2), 26 (both) places or so.
        Check.same("ring 0 to the right parts all", x.tries(), 1);
        Check.feed(x, 1, 0, 31, 0, 2, 0, 31, 0);
        Check.same("one fits", x.tries(), -1);
        Check.feed(x, 1, 0, 31, 2);
        Check.same("none fits", x.tries(), -1);
        Check.feed(x, 1, 0, 31, 0);
        Check.same("used up", x.tries(), 1);
        Check.no("used up", x.end(1));
        RodRings y = Check.made("ring at 0 cloth 1;ring at 1 cloth 1");
        Check.feed(y);
        Check.same("nothing parts them: the least", y.tries(), 0);
    }

    private static void rowsAreWrong(int... bytes) {
        RodRings x = three();
        Check.feed(x, bytes);
        Check.failsArgument("snags", () -> x.snags(false));
        Check.no("used up", x.end(1));
        Check.feed(x, bytes);
        Check.failsArgument("tries", x::tries);
        Check.no("used up", x.end(1));
        Check.same("fault", x.fault(), -1);
    }

    private static void wrongRows() {
        rowsAreWrong(0);
        rowsAreWrong(0, 0, 1);
        rowsAreWrong(0, 0, 1, 0, 0);
        rowsAreWrong(3, 0, 1, 0);
        rowsAreWrong(0, 2, 1, 0);
        rowsAreWrong(0, 0, 0, 0);
        rowsAreWrong(0, 0, 32, 0);
        rowsAreWrong(0, 0, 1, 32);
        rowsAreWrong(0, 0, 1, 0, 255, 0, 1, 0);
        int[] many = new int[164];
        for (int i = 0; i < 164; i += 4) {
            many[i + 2] = 1;
        }
        rowsAreWrong(many);
        RodRings x = three();
        Check.feed(x, java.util.Arrays.copyOf(many, 160));
        Check.same("40 are fine", x.snags(false), 4);
    }

    private static void loosen() {
        RodRings x = Check.made("ring at 0 cloth 9;ring at 2 cloth 9;ring at 4 cloth 9 thick;ring at 7 cloth 9;"
                + "caught 0;caught 1;caught 2;join 7");
        Check.same("thick one stops all", x.goes(0, true), 2);
        Check.same("needs nothing", x.loosen(0, true, 2), 0);
        Check.same("of ring 0 and ring 1 the least", x.loosen(0, true, 3), 1);
        Check.same("both", x.loosen(0, true, 4), 3);
        Check.same("still pushed", x.loosen(0, true, 5), -1);
        Check.same("ring 1 to the left: its left one freed", x.loosen(1, false, 1), 1);
        Check.same("ring 2 to the left", x.loosen(2, false, 1), 1);
        Check.same("ring 2 to the left by 2", x.loosen(2, false, 2), 3);
        Check.same("ring 3 from ring 2", x.loosen(3, false, 2), 4);
        Check.same("ring 3 far to the right", x.loosen(3, true, 6), 4);
        Check.same("nothing stays", x.caught(), 7);
        Check.failsArgument("0", () -> x.loosen(0, true, 0));
        Check.failsArgument("32", () -> x.loosen(0, true, 32));
        Check.failsIndex("no ring", () -> x.loosen(4, true, 0));
    }
}
