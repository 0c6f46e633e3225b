/** Promises 7 to 14, 19 and 20: what a ring is, how it is pulled, and what is done to it by hand. */
public final class ActsTest {
    private static final String FOUR = "ring at 2 cloth 3 wood fade 10 long 2;ring at 4 cloth 2 fade 30;"
            + "ring at 5 cloth 4 thick fade 20 long 5;ring at 9 cloth 9 fade 20;caught 1;join 8";

    private ActsTest() {
    }

    public static void main(String[] args) {
        ringWhat();
        hangs();
        pushing();
        drawing();
        caughtOnes();
        joinAndEnds();
        noise();
        wrongPulls();
        freeAndSnag();
        hooks();
        sewing();
        letting();
        chairs();
        Check.done("ActsTest");
    }

    private static void places(String what, RodRings x, int... due) {
        for (int i = 0; i < due.length; i++) {
            Check.same(what + ", place of " + i, x.ring(i, 0), due[i]);
        }
    }

    private static void ringWhat() {
        RodRings x = Check.made(FOUR);
        Check.failsIndex("ring 4", () -> x.ring(4, 0));
        Check.failsIndex("ring -1", () -> x.ring(-1, 0));
        Check.failsIndex("no ring and no what", () -> x.ring(4, 14));
        Check.failsElement("what 14", () -> x.ring(0, 14));
        Check.failsElement("what -1", () -> x.ring(0, -1));
        Check.same("share", x.ring(1, 13), 37);
        Check.same("share without", Check.made("ring at 1 cloth 1").ring(0, 13), 0);
        Check.same("share of all", Check.made("ring at 1 cloth 1 fade 5").ring(0, 13), 100);
    }

    private static void hangs() {
        RodRings x = Check.made("ring at 2 cloth 3;ring at 4 cloth 2;ring at 6 cloth 4;ring at 7 cloth 9");
        x.hook(1, false);
        Check.same("two as near", x.ring(1, 12), 0);
        Check.same("a hooked one itself", x.ring(2, 12), 2);
        x.hook(0, false);
        Check.same("the next", x.ring(1, 12), 2);
        Check.same("farther", x.ring(0, 12), 2);
        x.hook(2, false);
        Check.same("the only one", x.ring(0, 12), 3);
        x.hook(3, false);
        Check.same("none", x.ring(0, 12), -1);
        RodRings far = Check.made("ring at 0 cloth 9;ring at 9 cloth 9;ring at 18 cloth 9;ring at 27 cloth 9;ring at 31 cloth 9");
        for (int i = 0; i < 4; i++) {
            far.hook(i, false);
        }
        Check.same("at the other end", far.ring(0, 12), 4);
    }

    private static void pushing() {
        RodRings x = Check.made("ring at 0 cloth 9;ring at 2 cloth 9;ring at 3 cloth 9");
        Check.same("alone at first", x.with(0, true), 1);
        Check.same("goes", x.pull(0, true, 1), 1);
        places("one step", x, 1, 2, 3);
        Check.same("pushes all", x.with(0, true), 7);
        Check.same("far", x.pull(0, true, 5), 5);
        places("five more", x, 6, 7, 8);
        Check.same("the middle to the left", x.with(1, false), 3);
        Check.same("the last to the right alone", x.with(2, true), 4);
        Check.same("to the end", x.goes(0, true), 23);
        Check.same("nothing stays of goes", x.ring(0, 0), 6);
        Check.same("more than can be", x.pull(0, true, 31), 23);
        places("at the end", x, 29, 30, 31);
        Check.same("cannot", x.pull(0, true, 1), 0);
        Check.same("nobody", x.with(0, true), 0);
        Check.same("goes 0", x.goes(0, true), 0);
        Check.same("drawn back", x.goes(0, false), 29);
        Check.same("one alone", Check.made("ring at 0 cloth 1").goes(0, true), 31);
    }

    private static void drawing() {
        RodRings x = Check.made("ring at 4 cloth 2;ring at 5 cloth 3;ring at 8 cloth 1");
        Check.same("alone", x.with(0, false), 1);
        Check.same("one", x.pull(0, false, 1), 1);
        Check.same("draws those behind", x.with(0, false), 7);
        Check.same("two", x.pull(0, false, 1), 1);
        places("drawn", x, 2, 4, 7);
        Check.same("the last draws the taut", x.with(2, true), 7);
        Check.same("the middle to the right", x.with(1, true), 3);
        Check.same("the middle to the left", x.with(1, false), 6);
    }

    private static void caughtOnes() {
        RodRings x = Check.made("ring at 4 cloth 9;ring at 6 cloth 9;ring at 9 cloth 9;caught 0");
        Check.same("left one takes the right", x.with(0, false), 3);
        Check.same("right one takes the left", x.with(1, true), 3);
        Check.same("another alone", x.with(2, false), 4);
        Check.same("gap stays", x.pull(0, true, 2), 2);
        places("both", x, 6, 8, 9);
        Check.same("and pushes", x.with(0, true), 7);
        Check.same("left end", x.pull(1, false, 31), 6);
        places("at the end", x, 0, 2, 9);
    }

    private static void joinAndEnds() {
        RodRings x = Check.made("ring at 5 cloth 9 thick;ring at 7 cloth 9;join 8");
        Check.same("a thin one goes over, and draws the thick one up to it", x.goes(1, true), 9);
        Check.same("thick stops ahead", x.pull(0, true, 31), 2);
        places("at 7", x, 7, 8);
        Check.same("pushed by none", x.goes(0, true), 0);
        RodRings y = Check.made("ring at 8 cloth 9 thick;join 8");
        Check.same("not back over it", y.goes(0, false), 0);
        Check.same("away from it", y.goes(0, true), 23);
        Check.same("beyond", y.beyond(), 1);
        RodRings z = Check.made("ring at 6 cloth 1;ring at 7 cloth 9 thick;join 8");
        Check.same("one that pushes a thick one", z.goes(0, true), 0);
        Check.same("nobody", z.with(0, true), 0);
        RodRings w = Check.made("ring at 8 cloth 2 thick;ring at 10 cloth 9;join 8");
        Check.same("one that draws a thick one to the right", w.goes(1, true), 21);
        Check.same("left till just beside it", w.goes(1, false), 1);
        Check.same("default join", Check.made("ring at 10 cloth 9 thick").goes(0, true), 5);
    }

    private static void noise() {
        RodRings x = Check.made("ring at 0 cloth 1 wood;ring at 1 cloth 9;ring at 2 cloth 9");
        Check.same("would", x.would(0, true, 3, true), 6);
        Check.same("nothing stays", x.count(8), 0);
        x.pull(0, true, 3);
        Check.same("two are not wood", x.count(8), 6);
        x.pull(2, true, 1);
        Check.same("one", x.count(8), 7);
        RodRings y = Check.made("ring at 0 cloth 1;ring at 1 cloth 1;ring at 2 cloth 1;ring at 3 cloth 1;"
                + "ring at 4 cloth 1;ring at 5 cloth 1;ring at 6 cloth 1;ring at 7 cloth 1");
        for (int i = 0; i < 60; i++) {
            Check.same("all the way", y.pull(0, i % 2 == 0, 31), 24);
        }
        Check.same("9999 at most", y.count(8), 9999);
    }

    private static void wrongPulls() {
        RodRings x = Check.made(FOUR);
        Check.failsArgument("0", () -> x.pull(0, true, 0));
        Check.failsArgument("32", () -> x.pull(0, true, 32));
        Check.failsIndex("no ring", () -> x.pull(4, true, 0));
        Check.failsIndex("no ring", () -> x.pull(-1, true, 1));
        Check.failsIndex("goes", () -> x.goes(4, true));
        Check.failsIndex("with", () -> x.with(-1, true));
        Check.same("no act", x.count(10), 0);
        Check.same("no row", x.count(9), 0);
        Check.same("31 is fine", x.pull(0, true, 31), 3);
    }

    private static void freeAndSnag() {
        RodRings x = Check.made(FOUR);
        Check.same("free", x.free(1), 1);
        Check.same("freed", x.ring(1, 7), 0);
        Check.failsState("not caught", () -> x.free(1));
        Check.failsState("the last", () -> x.free(3));
        Check.failsIndex("no ring", () -> x.free(4));
        Check.same("snag", x.snag(2), 4);
        Check.same("caught", x.caught(), 4);
        Check.failsState("caught already", () -> x.snag(2));
        Check.failsState("the last one", () -> x.snag(3));
        Check.failsIndex("no ring", () -> x.snag(-1));
        Check.same("two acts", x.count(10), 2);
    }

    private static void hooks() {
        RodRings x = Check.made(FOUR);
        Check.no("is already", x.hook(1, true));
        Check.yes("off", x.hook(1, false));
        Check.same("loose", x.loose(), 2);
        Check.no("still off", x.hook(1, false));
        Check.yes("on", x.hook(1, true));
        Check.same("none loose", x.loose(), 0);
        Check.failsIndex("no ring", () -> x.hook(4, true));
        Check.same("each an act", x.count(10), 4);
    }

    private static void sewing() {
        RodRings x = new RodRings();
        Check.failsIndex("place 32", () -> x.sew(32, 1));
        Check.failsIndex("place -1", () -> x.sew(-1, 0));
        Check.failsArgument("cloth 0", () -> x.sew(3, 0));
        Check.failsArgument("cloth 10", () -> x.sew(3, 10));
        Check.same("the first one anywhere", x.sew(20, 3), 0);
        Check.failsState("not right of it", () -> x.sew(20, 3));
        Check.failsState("left of it", () -> x.sew(3, 3));
        Check.failsState("too far", () -> x.sew(24, 3));
        Check.failsArgument("cloth first", () -> x.sew(24, 10));
        Check.same("as far as cloth goes", x.sew(23, 1), 1);
        int[] due = {23, 1, 0, 0, 0, 0, 1, 0, -1};
        for (int what = 0; what < due.length; what++) {
            Check.same("sewn " + what, x.ring(1, what), due[what]);
        }
        for (int i = 2; i < 8; i++) {
            Check.same("sewn", x.sew(22 + i, 1), i);
        }
        Check.failsState("there are 8", () -> x.sew(30, 1));
        Check.same("8", x.count(0), 8);
        RodRings y = Check.made("ring at 3 cloth 9 thick wood fade 3 long 3");
        y.hook(0, false);
        y.undo();
        y.sew(4, 2);
        y.undo();
        y.sew(5, 2);
        Check.same("nothing stays of one undone", y.ring(1, 4), 0);
    }

    private static void letting() {
        RodRings x = Check.made(FOUR);
        Check.same("was", x.let(0, 9), 2);
        Check.same("is", x.ring(0, 5), 9);
        Check.same("was", x.let(0, 0), 9);
        Check.failsArgument("10", () -> x.let(0, 10));
        Check.failsArgument("-1", () -> x.let(0, -1));
        Check.failsIndex("no ring", () -> x.let(4, 10));
        Check.same("is", x.ring(0, 5), 0);
    }

    private static void chairs() {
        RodRings x = new RodRings();
        Check.yes("put", x.chair(31, true));
        Check.no("is there", x.chair(31, true));
        Check.yes("another", x.chair(0, true));
        Check.same("bits", x.count(7), 1 << 31 | 1);
        Check.yes("taken", x.chair(31, false));
        Check.no("is not there", x.chair(31, false));
        Check.failsIndex("32", () -> x.chair(32, true));
        Check.failsIndex("-1", () -> x.chair(-1, false));
        Check.same("each an act", x.count(10), 5);
    }
}
