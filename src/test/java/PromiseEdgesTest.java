import java.util.NoSuchElementException;

/** The edges that the promises name, one method a promise, and the paragraph on exceptions ahead of them. */
public final class PromiseEdgesTest {
    private static final Class<IndexOutOfBoundsException> INDEX = IndexOutOfBoundsException.class;
    private static final Class<IllegalArgumentException> ARGUMENT = IllegalArgumentException.class;
    private static final Class<IllegalStateException> STATE = IllegalStateException.class;
    private static final Class<NoSuchElementException> ELEMENT = NoSuchElementException.class;
    private static final Class<UnsupportedOperationException> UNSUPPORTED = UnsupportedOperationException.class;
    private static final int[] OUTSIDE = {-1, 3, 8, Integer.MIN_VALUE, Integer.MAX_VALUE};

    private PromiseEdgesTest() {
    }

    public static void main(String[] args) {
        newObject();
        feed();
        end();
        pole();
        poleRefusals();
        law();
        fault();
        ring();
        pull();
        free();
        snag();
        hook();
        sew();
        sewTooMany();
        let();
        chair();
        hours();
        goesAndWith();
        would();
        snags();
        tries();
        rowsOfTheTape();
        loosen();
        tight();
        lit();
        hoursAhead();
        lets();
        rests();
        odds();
        trialAndSpan();
        led();
        log();
        seed();
        undo();
        imageAndBack();
        count();
        firstToldIsThrown();
        barePole();
        Check.done("PromiseEdgesTest");
    }

    /** Three rings, of which the first has caught; something is remembered, and in the log. */
    private static RodRings three() {
        RodRings x = Check.made(Check.rings(2, 4, 7) + ";caught 0;chair 5");
        Check.law(x, "fade 1;catch 20;fall 10");
        x.pull(2, true, 1);
        x.hours(2);
        return x;
    }

    /** The call is refused for every ring that there is not. */
    private static void rings(String what, Check.NumberCall call) {
        for (int ring : OUTSIDE) {
            RodRings x = three();
            Check.refused(what + " of ring " + ring, INDEX, x, () -> call.run(x, ring));
        }
        RodRings bare = new RodRings();
        Check.refused(what + " of a bare pole", INDEX, bare, () -> call.run(bare, 0));
    }

    /** Promise 1: a bare pole. */
    private static void newObject() {
        RodRings x = new RodRings();
        int[] due = {0, 0, -1, 0, 0, 16, 8, 0, 0, 0, 0, -1};
        for (int what = 0; what < due.length; what++) {
            Check.same("count " + what, x.count(what), due[what]);
        }
        Check.same("fault", x.fault(), -1);
        Check.no("nothing to undo", x.undo());
        Check.no("no image", x.back());
        Check.no("an empty tape", x.end(1));
        Check.yes("an empty tape", x.end(0));
        Check.same("seed", x.seed(1), 1);
    }

    /** Promise 2: NONE, and none come, if it would have more than 400. */
    private static void feed() {
        RodRings x = new RodRings();
        for (int i = 1; i <= 20; i++) {
            Check.same("how many it has", x.feed(0x20202020, 0x20202020, 0x20202020, 0x20202020, 0x20202020), 20 * i);
        }
        Check.same("full", x.feed(1, 2, 3, 4, 5), -1);
        Check.no("none came", x.end(401));
        Check.same("the text is blanks alone", x.pole(), 1);
        Check.same("used up: there is room", x.feed(1, 2, 3, 4, 5), 20);
        x.end(0);
        for (int i = 1; i <= 19; i++) {
            x.feed(0, 0, 0, 0, 0);
        }
        x.end(380);
        Check.same("just 400", x.feed(0, 0, 0, 0, 0), 400);
        x.end(381);
        Check.same("401", x.feed(0, 0, 0, 0, 0), -1);
        Check.no("none came", x.end(382));
        Check.yes("as it was", x.end(381));
        // Of each number the highest byte first, and bytes above 127 as they are.
        RodRings y = Check.made(Check.rings(0, 2));
        y.feed(0x00011f1e, 0x01001f01, 0, 0, 0);
        y.end(8);
        Check.same("rows 0 right 31 30 and 1 left 31 1", y.snags(false), 1);
        y.feed(0xff000101, 0, 0, 0, 0);
        y.end(4);
        Check.failsArgument("no ring 255", () -> y.snags(false));
    }

    /** Promise 3: true; false, and nothing happens, if it has fewer, or n is below 0. */
    private static void end() {
        RodRings x = new RodRings();
        Check.yes("0 of 0", x.end(0));
        Check.no("1 of 0", x.end(1));
        x.feed(0x64617920, 0x33203420, 0, 0, 0);
        for (int n : new int[] {-1, 21, 400, 401, Integer.MIN_VALUE, Integer.MAX_VALUE}) {
            Check.no("end " + n, x.end(n));
        }
        Check.yes("as many as it has", x.end(20));
        Check.yes("its first five", x.end(5));
        Check.no("no sixth", x.end(6));
        Check.same("day 3", x.pole(), 1);
        Check.same("day 3", x.count(4), 3);
        Check.yes("0 of 0", x.end(0));
    }

    /** Promise 4: uses the TAPE up: how many texts there are. */
    private static void pole() {
        RodRings x = new RodRings();
        Check.same("empty", x.pole(), 1);
        Check.same("one more", Check.pole(x, "day 1"), 2);
        Check.no("used up", x.end(1));
        Check.same("nothing left of it: an empty one", x.pole(), 3);
    }

    /** Promise 4: IllegalArgumentException: it is wrong; UnsupportedOperationException: there are 12. */
    private static void poleRefusals() {
        RodRings x = three();
        for (int i = 2; i <= 12; i++) {
            Check.feed(x, "hour 8");
            Check.fails("wrong", ARGUMENT, x::pole);
            Check.no("used up", x.end(1));
            Check.same("a wrong one is none", x.count(1), i - 1);
            Check.same("texts", Check.pole(x, ""), i);
        }
        x.let(0, 1);
        String before = Check.hanging(x);
        Check.feed(x, "hour 8");
        Check.fails("wrong, and there are 12", ARGUMENT, x::pole);
        Check.same("its fault", x.fault(), 5);
        Check.feed(x, "hour 7;chair 1;ring at 9 cloth 1");
        Check.fails("there are 12", UNSUPPORTED, x::pole);
        Check.same("read without a fault", x.fault(), -1);
        Check.no("used up", x.end(1));
        Check.yes("nothing changed", before.equals(Check.hanging(x)));
        Check.same("acts stay", x.count(10), 1);
    }

    /** Promise 5: uses the TAPE up: how many LINES. IllegalArgumentException: the text is wrong. */
    private static void law() {
        RodRings x = three();
        String before = Check.hanging(x);
        for (String wrong : new String[] {"fade", "fade 101", "fade 1 if", "ring at 8 cloth 1", ";"}) {
            Check.feed(x, wrong);
            Check.fails(wrong, ARGUMENT, x::law);
            Check.no("used up", x.end(1));
            Check.yes("nothing changed", before.equals(Check.hanging(x)));
            Check.same("acts stay", x.count(10), 2);
        }
        Check.same("none", Check.law(x, ""), 0);
        Check.same("one", Check.law(x, "fall 1"), 1);
        Check.same("twelve", Check.law(x, "fall 1;".repeat(11) + "fall 1"), 12);
        Check.no("used up", x.end(1));
        for (int i = 0; i < 20; i++) {
            Check.same("as often as one likes", Check.law(x, "fade 1;fall 2"), 2);
        }
    }

    /** Promise 6: of the latest text that was read; NONE without one, and ahead of any. */
    private static void fault() {
        RodRings x = new RodRings();
        Check.same("ahead of any", x.fault(), -1);
        Check.feed(x, " x");
        Check.fails("wrong", ARGUMENT, x::pole);
        Check.same("1", x.fault(), 1);
        Check.same("asked again", x.fault(), 1);
        Check.feed(x, "  x");
        Check.fails("wrong", ARGUMENT, x::law);
        Check.same("of the latest", x.fault(), 2);
        Check.feed(x, 1, 2, 3);
        Check.fails("no text", ARGUMENT, () -> x.snags(true));
        Check.feed(x, 1, 2, 3);
        Check.fails("no text", ARGUMENT, x::tries);
        Check.same("still", x.fault(), 2);
        Check.law(x, "fade 1");
        Check.same("without one", x.fault(), -1);
        Check.feed(x, "x");
        Check.fails("wrong", ARGUMENT, x::law);
        Check.same("the first byte", x.fault(), 0);
        Check.pole(x, "");
        Check.same("without one", x.fault(), -1);
    }

    /** Promise 7: NoSuchElementException: another what. */
    private static void ring() {
        rings("ring", (x, ring) -> x.ring(ring, 0));
        rings("ring and what", (x, ring) -> x.ring(ring, 14));
        Check.bounds("what", PromiseEdgesTest::three, 0, 13, ELEMENT, (x, what) -> x.ring(0, what));
        RodRings x = three();
        Check.same("GAP", x.ring(1, 8), 4);
        Check.same("GAP of the last one", x.ring(2, 8), -1);
        Check.same("CAUGHT of the last one", x.ring(2, 7), 0);
        for (int i = 0; i < 3; i++) {
            x.hook(i, false);
        }
        Check.same("HANGS", x.ring(1, 12), -1);
    }

    /** Promise 8: IllegalArgumentException: n is none (1 to 31). */
    private static void pull() {
        rings("pull", (x, ring) -> x.pull(ring, true, 1));
        rings("pull by none", (x, ring) -> x.pull(ring, true, 0));
        Check.bounds("pull", PromiseEdgesTest::three, 1, 31, ARGUMENT, (x, n) -> x.pull(0, true, n));
        Check.bounds("pull", PromiseEdgesTest::three, 1, 31, ARGUMENT, (x, n) -> x.pull(2, false, n));
    }

    /** Promise 9: IllegalStateException: it is not CAUGHT. */
    private static void free() {
        rings("free", RodRings::free);
        RodRings x = three();
        Check.refused("not caught", STATE, x, () -> x.free(1));
        Check.refused("the last one", STATE, x, () -> x.free(2));
        Check.same("its GAP", Check.made(Check.rings(0, 9) + ";caught 0").free(0), 9);
        Check.same("its GAP", Check.made(Check.rings(0, 1) + ";caught 0").free(0), 1);
        x.free(0);
        Check.refused("freed", STATE, x, () -> x.free(0));
    }

    /** Promise 10: IllegalStateException: it is the last one, or CAUGHT. */
    private static void snag() {
        rings("snag", RodRings::snag);
        RodRings x = three();
        Check.refused("caught", STATE, x, () -> x.snag(0));
        Check.refused("the last one", STATE, x, () -> x.snag(2));
        Check.same("its GAP, whatever it is", x.snag(1), 4);
        Check.refused("caught", STATE, x, () -> x.snag(1));
        RodRings one = Check.made("ring at 3 cloth 1");
        Check.refused("one alone", STATE, one, () -> one.snag(0));
        x.sew(9, 1);
        Check.same("no more the last one", x.snag(2), 1);
    }

    /** Promise 11: HOOKED, or not: whether that changed. */
    private static void hook() {
        rings("hook", (x, ring) -> x.hook(ring, true));
        rings("hook off", (x, ring) -> x.hook(ring, false));
        RodRings x = Check.made(Check.rings(0, 1));
        Check.no("is already", x.hook(1, true));
        Check.yes("off", x.hook(1, false));
        Check.no("is already", x.hook(1, false));
        Check.yes("on", x.hook(1, true));
        Check.same("each an act", x.count(10), 4);
    }

    /** Promise 12: IllegalArgumentException: CLOTH is none (1 to 9); IllegalStateException: the PLACE. */
    private static void sew() {
        Check.bounds("a place of a bare pole", RodRings::new, 0, 31, INDEX, (x, place) -> x.sew(place, 1));
        Check.bounds("cloth", RodRings::new, 1, 9, ARGUMENT, (x, cloth) -> x.sew(0, cloth));
        Check.bounds("cloth, behind others", PromiseEdgesTest::three, 1, 9, ARGUMENT, (x, cloth) -> x.sew(9, cloth));
        RodRings x = Check.made("ring at 5 cloth 3 thick wood fade 4 long 5");
        for (int place : new int[] {0, 4, 5, 9, 31}) {
            Check.refused("at " + place, STATE, x, () -> x.sew(place, 1));
        }
        Check.same("just beside", x.sew(6, 1), 1);
        x.undo();
        Check.same("as far as its cloth goes", x.sew(8, 9), 1);
        int[] due = {8, 9, 0, 0, 0, 0, 1, 0, -1};
        for (int what = 0; what < due.length; what++) {
            Check.same("as at first, what " + what, x.ring(1, what), due[what]);
        }
        RodRings end = Check.made("ring at 31 cloth 9");
        Check.refused("no place right of 31", STATE, end, () -> end.sew(31, 1));
    }

    /** Promise 12: IllegalStateException: there are 8; and nothing of one that was undone stays. */
    private static void sewTooMany() {
        RodRings x = new RodRings();
        for (int i = 0; i < 8; i++) {
            Check.same("its number", x.sew(3 * i, 3), i);
        }
        Check.refused("a ninth", STATE, x, () -> x.sew(22, 1));
        Check.refused("a ninth with no cloth", ARGUMENT, x, () -> x.sew(22, 10));
        Check.refused("a ninth at no place", INDEX, x, () -> x.sew(32, 10));
        RodRings y = Check.made("ring at 0 cloth 9");
        y.image();
        Check.pole(y, "ring at 1 cloth 9 thick wood fade 3 long 3;ring at 2 cloth 1;caught 1");
        y.hook(1, false);
        y.back();
        Check.same("sewn", y.sew(1, 9), 1);
        int[] due = {1, 9, 0, 0, 0, 0, 1, 0};
        for (int what = 0; what < due.length; what++) {
            Check.same("as at first, what " + what, y.ring(1, what), due[what]);
        }
    }

    /** Promise 13: IllegalArgumentException: it is none (0 to 9). */
    private static void let() {
        rings("let", (x, ring) -> x.let(ring, 1));
        rings("let by none", (x, ring) -> x.let(ring, 10));
        Check.bounds("let", PromiseEdgesTest::three, 0, 9, ARGUMENT, (x, n) -> x.let(0, n));
        RodRings x = three();
        Check.same("what it was", x.let(2, 9), 0);
        Check.same("what it was", x.let(2, 0), 9);
    }

    /** Promise 14: whether that changed. */
    private static void chair() {
        Check.bounds("chair", PromiseEdgesTest::three, 0, 31, INDEX, (x, place) -> x.chair(place, true));
        Check.bounds("no chair", PromiseEdgesTest::three, 0, 31, INDEX, (x, place) -> x.chair(place, false));
        RodRings x = new RodRings();
        for (int place : new int[] {0, 31}) {
            Check.no("none there", x.chair(place, false));
            Check.yes("put", x.chair(place, true));
            Check.no("there", x.chair(place, true));
            Check.same("it alone", x.count(7), 1 << place);
            Check.yes("taken", x.chair(place, false));
            Check.same("none", x.count(7), 0);
        }
    }

    /** Promise 15: so many HOURS more (1 to 80). IllegalArgumentException: they are none. */
    private static void hours() {
        Check.bounds("hours", PromiseEdgesTest::three, 1, 80, ARGUMENT, RodRings::hours);
        RodRings x = Check.made(Check.rings(0, 1, 2, 3, 4, 5, 6, 7));
        Check.law(x, "catch 100;fall 100");
        Check.same("seven are caught, eight fall", x.hours(80), 15);
        Check.same("none is left", x.hours(80), 0);
        Check.same("nobody", new RodRings().hours(80), 0);
    }

    /** Promises 19 and 20. */
    private static void goesAndWith() {
        for (boolean right : new boolean[] {false, true}) {
            rings("goes", (x, ring) -> x.goes(ring, right));
            rings("with", (x, ring) -> x.with(ring, right));
        }
    }

    /** Promise 21: IllegalArgumentException: n is none (1 to 31). */
    private static void would() {
        for (boolean noise : new boolean[] {false, true}) {
            rings("would", (x, ring) -> x.would(ring, true, 1, noise));
            rings("would by none", (x, ring) -> x.would(ring, true, 32, noise));
            Check.bounds("would", PromiseEdgesTest::three, 1, 31, ARGUMENT, (x, n) -> x.would(0, true, n, noise));
        }
    }

    /** A row is right, or both calls refuse it, and use the tape up. */
    private static void row(boolean right, int... bytes) {
        for (int call = 0; call < 3; call++) {
            RodRings x = three();
            String before = Check.told(x);
            Check.feed(x, bytes);
            boolean refused = false;
            try {
                if (call < 2) {
                    x.snags(call == 1);
                } else {
                    x.tries();
                }
            } catch (IllegalArgumentException e) {
                refused = true;
            }
            String what = java.util.Arrays.toString(bytes) + " in call " + call;
            Check.same(what + " is right", refused ? 0 : 1, right ? 1 : 0);
            Check.same(what + " is used up", x.feed(0, 0, 0, 0, 0), 20);
            Check.yes(what + " changes nothing", before.equals(Check.told(x)));
        }
    }

    /** Promise 25: of each four bytes: RING, side, N, how many it went; IllegalArgumentException: it is not that. */
    private static void snags() {
        row(true, 0, 0, 1, 0);
        row(true, 2, 1, 31, 31);
        row(false, 3, 0, 1, 0);
        row(false, 255, 0, 1, 0);
        row(false, 0, 2, 1, 0);
        row(false, 0, 255, 1, 0);
        row(false, 0, 0, 0, 0);
        row(false, 0, 0, 32, 0);
        row(false, 0, 0, 255, 0);
        row(false, 0, 0, 1, 32);
        row(false, 0, 0, 1, 255);
        row(false, 128, 0, 1, 0);
    }

    /** Promise 25: none may be told; promise 26: the TAPE likewise. */
    private static void tries() {
        row(true);
        row(false, 0);
        row(false, 0, 0, 1);
        row(false, 0, 0, 1, 0, 0);
        row(false, 0, 0, 1, 0, 0, 0, 1);
        row(true, 0, 0, 1, 0, 2, 0, 1, 0);
        row(false, 0, 0, 1, 0, 3, 0, 1, 0);
        row(false, 3, 0, 1, 0, 0, 0, 1, 0);
        RodRings bare = new RodRings();
        Check.same("none told of nobody", bare.tries(), -1);
        Check.feed(bare, 0, 0, 1, 0);
        Check.fails("no ring", ARGUMENT, bare::tries);
        Check.feed(bare, 0, 0, 1, 0);
        Check.fails("no ring", ARGUMENT, () -> bare.snags(false));
    }

    /** Promise 25: at most 40. */
    private static void rowsOfTheTape() {
        for (int rows : new int[] {39, 40, 41, 100}) {
            int[] bytes = new int[4 * rows];
            for (int i = 0; i < rows; i++) {
                bytes[4 * i + 2] = 1;
                bytes[4 * i + 3] = 1;
            }
            row(rows <= 40, bytes);
        }
        int[] last = new int[160];
        for (int i = 0; i < 40; i++) {
            last[4 * i + 2] = 1;
            last[4 * i + 3] = 1;
        }
        RodRings x = Check.made(Check.rings(2, 4, 7));
        Check.feed(x, last);
        Check.same("all fit", x.snags(false), 4);
        last[159] = 0;
        Check.feed(x, last);
        Check.same("the 40th counts", x.snags(false), 0);
    }

    /** Promise 27: IllegalArgumentException: n is none (1 to 31). */
    private static void loosen() {
        rings("loosen", (x, ring) -> x.loosen(ring, true, 1));
        rings("loosen by none", (x, ring) -> x.loosen(ring, true, 0));
        Check.bounds("loosen", PromiseEdgesTest::three, 1, 31, ARGUMENT, (x, n) -> x.loosen(0, false, n));
    }

    /** Promise 29: IllegalArgumentException: N is none (2 to 8). */
    private static void tight() {
        Check.bounds("tight", PromiseEdgesTest::three, 2, 8, ARGUMENT, RodRings::tight);
        Check.bounds("tight of nobody", RodRings::new, 2, 8, ARGUMENT, RodRings::tight);
    }

    /** Promise 32: there is no such HOUR. */
    private static void lit() {
        Check.bounds("lit", PromiseEdgesTest::three, 0, 7, INDEX, RodRings::lit);
        Check.bounds("lit of nobody", RodRings::new, 0, 7, INDEX, RodRings::lit);
    }

    /** Promises 34 and 46: IllegalArgumentException: N is none (0 to 80). */
    private static void hoursAhead() {
        Check.bounds("faded", PromiseEdgesTest::three, 0, 80, ARGUMENT, RodRings::faded);
        Check.bounds("ahead", PromiseEdgesTest::three, 0, 80, ARGUMENT, (x, n) -> x.ahead(2, n));
        rings("ahead", (x, ring) -> x.ahead(ring, 1));
        rings("ahead by none", (x, ring) -> x.ahead(ring, 81));
    }

    /** Promise 36: IllegalArgumentException: X is none. */
    private static void lets() {
        Check.bounds("lets", PromiseEdgesTest::three, 0, 9, ARGUMENT, (x, n) -> x.lets(0, n));
        rings("lets", (x, ring) -> x.lets(ring, 1));
        rings("lets of none", (x, ring) -> x.lets(ring, 10));
    }

    /** Promise 38: NONE of the last one. */
    private static void rests() {
        rings("rests", RodRings::rests);
        Check.same("the last one", three().rests(2), -1);
    }

    /** Promise 44: IllegalArgumentException: N is none (0 to 4). */
    private static void odds() {
        Check.bounds("odds", PromiseEdgesTest::three, 0, 4, ARGUMENT, (x, n) -> x.odds(0, n));
        rings("odds", (x, ring) -> x.odds(ring, 1));
        rings("odds of none", (x, ring) -> x.odds(ring, 5));
    }

    /** Promises 47 and 48: IllegalArgumentException: N is none (0 to 80). */
    private static void trialAndSpan() {
        for (boolean is : new boolean[] {false, true}) {
            Check.bounds("trial", PromiseEdgesTest::three, 0, 80, ARGUMENT, (x, n) -> x.trial(n, is));
            Check.bounds("span", PromiseEdgesTest::three, 0, 80, ARGUMENT, (x, n) -> x.span(n, is));
        }
    }

    /** Promise 49: how many rows (place false), or the PLACE; NONE. */
    private static void led() {
        rings("led", (x, ring) -> x.led(ring, false));
        rings("led to its place", (x, ring) -> x.led(ring, true));
        RodRings x = Check.made(Check.rings(2, 4));
        Check.same("no rows", x.led(1, false), 0);
        Check.same("NONE", x.led(1, true), -1);
    }

    /** Promise 50: NONE without. NoSuchElementException: another what. */
    private static void log() {
        Check.bounds("what", PromiseEdgesTest::three, 0, 5, ELEMENT, (x, what) -> x.log(0, what));
        Check.bounds("what of no row", RodRings::new, 0, 5, ELEMENT, (x, what) -> x.log(0, what));
        RodRings x = Check.made(Check.rings(2, 4));
        x.pull(0, true, 1);
        for (int what = 0; what < 6; what++) {
            for (int ago : new int[] {-1, 1, 59, 60, Integer.MIN_VALUE, Integer.MAX_VALUE}) {
                Check.same("without", x.log(ago, what), -1);
            }
        }
        Check.refused("no row and another what", ELEMENT, x, () -> x.log(-1, 6));
    }

    /** Promise 51: what it was: any int. */
    private static void seed() {
        RodRings x = new RodRings();
        int was = 1;
        for (int n : new int[] {0, -1, Integer.MIN_VALUE, Integer.MAX_VALUE, 1}) {
            Check.same("what it was", x.seed(n), was);
            was = n;
        }
        Check.same("no act", x.count(10), 0);
    }

    /** Promise 52: whether there was one. */
    private static void undo() {
        RodRings x = new RodRings();
        Check.no("none", x.undo());
        x.chair(3, true);
        Check.yes("one", x.undo());
        Check.no("none", x.undo());
        Check.same("undoing is no act", x.count(10), 0);
        RodRings y = three();
        y.seed(9);
        Check.yes("hours", y.undo());
        Check.same("SEED, too, is as ahead of it", y.seed(1), 1);
    }

    /** Promises 53 and 54: true; false, and nothing happens, if none was kept. */
    private static void imageAndBack() {
        RodRings x = three();
        String before = Check.told(x);
        x.feed(1, 2, 3, 4, 5);
        Check.no("none was kept", x.back());
        Check.yes("nothing happens", before.equals(Check.told(x)));
        Check.same("nor to the tape", x.feed(1, 2, 3, 4, 5), 40);
        x.image();
        Check.yes("keeping changes nothing", before.equals(Check.told(x)));
        Check.yes("back", x.back());
        Check.yes("back again", x.back());
        RodRings bare = new RodRings();
        bare.image();
        Check.pole(bare, "chair 3");
        Check.yes("an image of a bare pole", bare.back());
        Check.same("no chair", bare.count(7), 0);
        Check.same("no text", bare.count(1), 0);
    }

    /** Promise 55: NONE for another what. */
    private static void count() {
        RodRings x = three();
        for (int what : new int[] {-1, 11, 12, Integer.MIN_VALUE, Integer.MAX_VALUE}) {
            Check.same("another what", x.count(what), -1);
        }
        int[] due = {3, 1, 3, 2, 0, 16, 8, 32, 1};
        for (int what = 0; what < due.length; what++) {
            Check.same("count " + what, x.count(what), due[what]);
        }
        Check.same("acts", x.count(10), 2);
        Check.same("NONE without a law", Check.made("day 1").count(2), -1);
        RodRings empty = new RodRings();
        Check.law(empty, "");
        Check.same("0 of an empty one", empty.count(2), 0);
    }

    /** Of several exceptions the one told first is thrown. */
    private static void firstToldIsThrown() {
        RodRings x = three();
        Check.refused("free of none", INDEX, x, () -> x.free(9));
        Check.refused("snag of none", INDEX, x, () -> x.snag(-9));
        Check.refused("no place, no cloth, nor can it be", INDEX, x, () -> x.sew(-1, 0));
        Check.refused("no cloth, nor can it be", ARGUMENT, x, () -> x.sew(0, 0));
        Check.refused("it cannot be", STATE, x, () -> x.sew(0, 1));
        Check.refused("no ring, no what", INDEX, x, () -> x.ring(3, 99));
    }

    /** Every call on a bare pole answers, or throws what the document says. */
    private static void barePole() {
        RodRings x = new RodRings();
        Check.same("sets", x.shade() | x.bare() | x.taut() | x.lit(7) | x.wooden() | x.caught() | x.loose() | x.beyond(), 0);
        Check.same("counts", x.dark() + x.order() + x.slack() + x.envy() + x.bunch() + x.twins() + x.faded(80), 0);
        Check.same("best", x.best(), -1);
        Check.same("tight", x.tight(8), -1);
        Check.same("sunny", x.sunny(), -1);
        Check.same("pale", x.pale(), -1);
        Check.same("fewest", x.fewest(-1), -1);
        Check.same("first", x.first(-1), -1);
        Check.same("log", x.log(0, 5), -1);
        Check.same("hours", x.hours(1), 0);
        Check.yes("undone", x.undo());
    }
}
