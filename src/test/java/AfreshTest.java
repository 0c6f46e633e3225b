/** Nothing that an earlier call left behind, in a search, a look ahead or a text, shows in a later answer. */
public final class AfreshTest {
    private AfreshTest() {
    }

    public static void main(String[] args) {
        hookedNow();
        ringsNow();
        clothNow();
        chairsNow();
        caughtNow();
        fadesNow();
        seedNow();
        lawAfterLaw();
        lawAfterWrongLaw();
        poleAfterWrongPole();
        tapeAfterTape();
        searchesLeaveNothing();
        Check.done("AfreshTest");
    }

    /** Acts that no search takes part in come between what a search keeps and the next search. */
    private static void hookedNow() {
        RodRings x = Check.made("ring at 2 cloth 9;ring at 4 cloth 9;chair 8");
        Check.same("ring 0 goes right by 5, and pushes", x.best(), 32 + 5);
        x.hook(0, false);
        Check.same("off its hook: fewest", x.fewest(1 << 3), -1);
        x.hook(0, true);
        x.hook(1, false);
        Check.same("off its hook: first", x.first(1 << 8), -1);
        x.hook(0, false);
        x.hook(1, true);
        Check.same("off its hook: best", x.best(), -1);
        x.hook(1, false);
        Check.same("both off: none in shade", x.would(1, true, 4, false), 0);
        x.hook(0, true);
        x.hook(1, true);
        Check.same("hooked again: fewest", x.fewest(1 << 8), 4);
        x.hook(1, false);
        x.undo();
        Check.same("undone: first", x.first(1 << 8), 3);
    }

    private static RodRings withThird() {
        RodRings x = Check.made("ring at 2 cloth 9;ring at 4 cloth 9");
        x.sew(5, 1);
        return x;
    }

    private static void ringsNow() {
        // Ring 2 is pushed ahead to 31, so ring 1 comes no farther than 30.
        Check.same("all of 27", withThird().loosen(1, true, 27), -1);
        Check.same("all of 26", withThird().loosen(1, true, 26), 0);
        Check.same("goes", withThird().goes(1, true), 26);
        Check.same("would", withThird().would(1, true, 31, true), 2 * 26 + 19);
        Check.same("fewest", withThird().fewest(1 << 30 | 1 << 31), 26);
        Check.same("first", withThird().first(1 << 30 | 1 << 31), 3);
        RodRings x = withThird();
        Check.feed(x, 1, 1, 31, 26);
        Check.same("all four sets fit", x.snags(false), 4);
        RodRings y = withThird();
        Check.feed(y, 1, 1, 31, 27);
        Check.same("no set fits", y.snags(false), 0);
        RodRings z = withThird();
        Check.feed(z);
        // Ring 0 goes left by 2 in all; right by 26 in those in which it has caught, else by 27.
        Check.same("tries", z.tries(), 1);
        RodRings w = withThird();
        Check.same("ahead", w.ahead(2, 1), 1);
        Check.same("trial", withThird().trial(0, true), 0);
        Check.same("faded", withThird().faded(1), 3);
        RodRings u = withThird();
        u.undo();
        Check.same("taken back: goes", u.goes(1, true), 27);
    }

    private static void clothNow() {
        RodRings x = new RodRings();
        x.sew(4, 9);
        x.sew(6, 9);
        x.undo();
        x.undo();
        x.sew(4, 3);
        x.sew(6, 3);
        // Ring 1 draws ring 0 from its second step on.
        Check.same("noise", x.would(1, true, 3, true), 1 + 2 + 2);
        Check.same("loosen", x.loosen(0, false, 5), -1);
        Check.same("loosen", x.loosen(0, false, 4), 0);
        Check.same("fewest", x.fewest(1 << 10 | 1 << 8), 4);
    }

    private static void chairsNow() {
        RodRings x = Check.made("ring at 2 cloth 9;ring at 4 cloth 9;chair 8");
        Check.same("for chair 8", x.best(), 32 + 5);
        x.chair(8, false);
        Check.same("no chair", x.best(), -1);
        x.chair(1, true);
        Check.same("would", x.would(0, false, 1, false), 1);
        Check.same("for chair 1", x.best(), 1);
    }

    private static void caughtNow() {
        RodRings x = Check.made("ring at 3 cloth 9 thick;ring at 6 cloth 9;join 4");
        Check.same("till the thick one would be drawn", x.goes(1, true), 6);
        x.snag(0);
        Check.same("held by the thick one", x.goes(1, true), 0);
        Check.same("to be freed", x.loosen(1, true, 6), 1);
        Check.feed(x, 1, 1, 31, 0);
        Check.same("the one that has caught", x.snags(true), 1);
        Check.feed(x, 1, 1, 31, 30);
        Check.same("no set fits, so none is sure", x.snags(true), 0);
        Check.feed(x, 1, 1, 31, 30);
        Check.same("nor is there one to part", x.tries(), -1);
        x.free(0);
        Check.same("none to be freed", x.loosen(1, true, 6), 0);
        Check.same("no more by that", x.loosen(1, true, 7), -1);
        Check.same("goes", x.goes(1, true), 6);
    }

    private static void fadesNow() {
        RodRings x = Check.made("ring at 2 cloth 9;ring at 4 cloth 9");
        Check.law(x, "fade 1");
        Check.same("not in 80 hours", x.pale(), -1);
        x.hours(50);
        Check.same("99 less 50", x.pale(), 49);
        x.hours(9);
        Check.same("faded", x.faded(1), 120);
        x.hours(1);
        Check.same("ahead", x.ahead(0, 2), 62);
        x.undo();
        x.undo();
        Check.same("taken back", x.pale(), 49);
        RodRings shortOne = Check.made("ring at 2 cloth 9");
        Check.law(shortOne, "fade 9 if long>5");
        Check.same("short", shortOne.pale(), -1);
        shortOne.let(0, 6);
        Check.same("11 hours of 9", shortOne.pale(), 11);
    }

    private static void seedNow() {
        RodRings x = Check.made("ring at 2 cloth 9");
        Check.law(x, "fall 50");
        int falls = 0;
        for (int seed = 1; seed <= 40; seed++) {
            x.seed(seed);
            int tried = x.trial(1, true);
            x.span(3, true);
            Check.same("trial by seed " + seed + " is what comes", x.hours(1), tried);
            Check.same("loose", x.loose(), tried);
            falls += tried;
            x.undo();
            Check.same("seed is as ahead of the hour", x.seed(seed), seed);
        }
        Check.yes("some fall, some do not", falls > 0 && falls < 40);
    }

    /** 1 + 1 + .. 1, as much as a tape holds. */
    private static String longLaw(String head, String tail) {
        StringBuilder b = new StringBuilder(head).append('1');
        while (b.length() + 2 + tail.length() <= 400) {
            b.append("+1");
        }
        return b.append(tail).toString();
    }

    private static void lawAfterLaw() {
        RodRings x = Check.made("ring at 2 cloth 9");
        for (int i = 0; i < 4; i++) {
            Check.same("a long law", Check.law(x, longLaw("fade 3 if ", "<999")), 1);
            Check.same("holds", x.ring(0, 9), 3);
            Check.law(x, longLaw("fade 4 if ", ">999"));
            Check.same("does not hold", x.ring(0, 9), 0);
            Check.law(x, "fade 5 if wood;fall 7;catch 9 if not wood");
            Check.same("no wood", x.ring(0, 9), 0);
            Check.same("catches", x.ring(0, 10), 9);
            Check.same("falls", x.ring(0, 11), 7);
            Check.law(x, "");
            Check.same("no line: fades", x.ring(0, 9), 0);
            Check.same("no line: catches", x.ring(0, 10), 0);
        }
        Check.law(x, longLaw("fade 3 if ", "<193"));
        int parts = (longLaw("fade 3 if ", "<193").length() - "fade 3 if <193".length() + 1) / 2;
        Check.same("so many parts", parts, 193);
        Check.same("193 is not below 193", x.ring(0, 9), 0);
        Check.law(x, longLaw("fade 3 if ", "<194"));
        Check.same("193 is below 194", x.ring(0, 9), 3);
    }

    private static void lawAfterWrongLaw() {
        RodRings x = Check.made("ring at 2 cloth 9 wood");
        Check.law(x, "fade 5 if wood");
        for (int i = 0; i < 4; i++) {
            Check.failsArgument("wrong at its end", () -> Check.law(x, longLaw("fade 3 if ", "<")));
            Check.same("where", x.fault(), longLaw("fade 3 if ", "<").length());
            Check.same("the law stays", x.ring(0, 9), 5);
            Check.same("its lines, too", x.count(2), 1);
        }
        Check.law(x, "fade 6 if not wood or 1<2");
        Check.same("the next one", x.ring(0, 9), 6);
        Check.same("no fault", x.fault(), -1);
    }

    private static void poleAfterWrongPole() {
        RodRings x = Check.made("ring at 2 cloth 4");
        Check.failsArgument("wrong at its end",
                () -> Check.pole(x, "ring at 5 cloth 3 thick wood fade 9 long 9;join 3;wide 0;hour 5;day 9;chair 7;x"));
        Check.same("text", Check.pole(x, "ring at 6 cloth 2"), 2);
        int[] due = {6, 2, 0, 0, 0, 0, 1, 0};
        for (int what = 0; what < due.length; what++) {
            Check.same("ring 1, " + what, x.ring(1, what), due[what]);
        }
        int[] counts = {2, 2, -1, 0, 0, 16, 8, 0};
        for (int what = 0; what < counts.length; what++) {
            Check.same("count " + what, x.count(what), counts[what]);
        }
    }

    private static void tapeAfterTape() {
        RodRings x = new RodRings();
        Check.pole(x, "ring at 31 cloth 9;chair 30;chair 29;chair 28");
        Check.failsArgument("shorter", () -> Check.pole(x, "chair"));
        Check.same("nothing behind its end", x.fault(), 5);
        Check.failsArgument("a word cut off", () -> Check.law(x, "fad"));
        Check.same("the word", x.fault(), 0);
        Check.same("used up", Check.law(x, ""), 0);
        Check.same("no fault", x.fault(), -1);
    }

    /** The same question twice, with all others between, has the same answer. */
    private static void searchesLeaveNothing() {
        RodRings x = Check.made("ring at 3 cloth 4 thick;ring at 4 cloth 6;ring at 8 cloth 5 wood;ring at 12 cloth 3;"
                + "caught 1;chair 2;chair 6;chair 14;join 9");
        Check.law(x, "fade 2 if lit;catch 40;fall 15 if not wood");
        x.pull(2, true, 1);
        x.hook(3, false);
        String state = Check.hanging(x);
        String before = answers(x);
        for (int i = 0; i < 3; i++) {
            Check.yes("the same answers", before.equals(answers(x)));
        }
        Check.yes("the same state", state.equals(Check.hanging(x)));
        Check.same("the same acts", x.count(10), 2);
    }

    private static String answers(RodRings x) {
        StringBuilder b = new StringBuilder();
        b.append(x.best()).append(' ').append(x.fewest(0x40)).append(' ').append(x.first(0x4040)).append(' ');
        for (int ring = 0; ring < x.count(0); ring++) {
            b.append(x.goes(ring, true)).append(' ').append(x.with(ring, false)).append(' ');
            b.append(x.would(ring, true, 5, false)).append(' ').append(x.would(ring, false, 5, true)).append(' ');
            b.append(x.loosen(ring, true, 3)).append(' ').append(x.ahead(ring, 30)).append(' ');
            b.append(x.odds(ring, 3)).append(' ');
        }
        b.append(x.trial(20, false)).append(' ').append(x.trial(20, true)).append(' ');
        b.append(x.span(9, true)).append(' ').append(x.span(9, false)).append(' ');
        b.append(x.faded(12)).append(' ').append(x.pale()).append(' ');
        Check.feed(x, 2, 1, 9, 3);
        b.append(x.snags(false)).append(' ');
        Check.feed(x);
        return b.append(x.tries()).toString();
    }
}
