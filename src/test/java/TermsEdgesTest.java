/** The edges that the first part of the document's terms names: a test for each sentence, which stands above it. */
public final class TermsEdgesTest {
    private static final String EIGHT = Check.rings(0, 1, 2, 3, 4, 5, 6, 7);

    private TermsEdgesTest() {
    }

    public static void main(String[] args) {
        places();
        atMostEightRings();
        placesRise();
        cloth();
        clothOfTheLast();
        fade();
        lengths();
        hookedAtFirst();
        caughtOnTheNext();
        gap();
        join();
        chairs();
        wide();
        sunLights();
        hourAndDay();
        noise();
        twelveTexts();
        fourteenLines();
        ringAt();
        caughtLine();
        numbersOfAPole();
        digitsOfAPole();
        optionsInTheirOrder();
        twelveLawLines();
        lawNumbers();
        lawDigits();
        sumsAndSigns();
        lawOfTheLastGap();
        lawOfLit();
        withoutALaw();
        sumOfAllThatHold();
        words();
        blanks();
        noLine();
        sixDeep();
        deepestCondition();
        moreMustCome();
        fullTape();
        strangeBytes();
        nothingStays();
        Check.done("TermsEdgesTest");
    }

    private static void right(String text) {
        RodRings x = new RodRings();
        Check.feed(x, text);
        int texts = -2;
        try {
            texts = x.pole();
        } catch (IllegalArgumentException e) {
            texts = -3;
        }
        Check.same("pole: " + text, texts, 1);
        Check.same("no fault of " + text, x.fault(), -1);
    }

    private static void wrong(String text, int fault) {
        wrongOn(new RodRings(), text, fault);
    }

    private static void wrongOn(RodRings x, String text, int fault) {
        Check.feed(x, text);
        Check.failsArgument("pole: " + text, x::pole);
        Check.same("fault of " + text, x.fault(), fault);
    }

    private static void lawIsRight(String text, int lines) {
        RodRings x = Check.made("ring at 3 cloth 2 wood");
        Check.feed(x, text);
        int got = -2;
        try {
            got = x.law();
        } catch (IllegalArgumentException e) {
            got = -3;
        }
        Check.same("law: " + text, got, lines);
        Check.same("no fault of " + text, x.fault(), -1);
    }

    private static void lawIsWrong(String text, int fault) {
        RodRings x = new RodRings();
        Check.feed(x, text);
        Check.failsArgument("law: " + text, x::law);
        Check.same("fault of " + text, x.fault(), fault);
    }

    /** PLACES 0 to 31 on the POLE. */
    private static void places() {
        right("ring at 0 cloth 1");
        right("ring at 31 cloth 1");
        wrong("ring at 32 cloth 1", 8);
        right("chair 0;chair 31");
        wrong("chair 32", 6);
        Check.same("from 0 to 31", Check.made("ring at 0 cloth 1").pull(0, true, 31), 31);
        Check.same("from 31 to 0", Check.made("ring at 31 cloth 1;join 1").pull(0, false, 31), 31);
    }

    /** RINGS (at most 8). */
    private static void atMostEightRings() {
        RodRings x = Check.made(EIGHT);
        Check.same("eight", x.count(0), 8);
        wrongOn(x, "ring at 8 cloth 1", 0);
        wrongOn(x, "day 3; ring at 8 cloth 1", 7);
        Check.refused("sewn", IllegalStateException.class, x, () -> x.sew(8, 1));
        wrong(EIGHT + ";ring at 8 cloth 9", EIGHT.length() + 1);
        Check.refused("an eighth of seven", IndexOutOfBoundsException.class, x, () -> x.ring(8, 0));
        Check.same("the eighth", x.ring(7, 0), 7);
    }

    /** RINGS in a row, numbered from the left, at PLACES that rise. */
    private static void placesRise() {
        wrong("ring at 5 cloth 9;ring at 5 cloth 9", 26);
        wrong("ring at 5 cloth 9;ring at 4 cloth 9", 26);
        right("ring at 5 cloth 9;ring at 6 cloth 9");
        RodRings x = Check.made(Check.rings(0, 9, 10));
        x.pull(1, false, 31);
        x.pull(2, false, 31);
        for (int i = 0; i < 3; i++) {
            Check.same("side by side", x.ring(i, 0), i);
        }
    }

    /** CLOTH 1 to 9 (how far the next one can be at most). */
    private static void cloth() {
        wrong("ring at 5 cloth 0", 16);
        right("ring at 5 cloth 1");
        right("ring at 5 cloth 9");
        wrong("ring at 5 cloth 10", 16);
        right("ring at 5 cloth 1;ring at 6 cloth 1");
        wrong("ring at 5 cloth 1;ring at 7 cloth 1", 26);
        right("ring at 5 cloth 9;ring at 14 cloth 1");
        wrong("ring at 5 cloth 9;ring at 15 cloth 1", 26);
        RodRings x = Check.made("ring at 0 cloth 3;ring at 1 cloth 9");
        x.pull(1, true, 20);
        Check.same("drawn along", x.ring(0, 8), 3);
    }

    /** Of the last one CLOTH holds nothing. */
    private static void clothOfTheLast() {
        RodRings x = Check.made("ring at 0 cloth 9;ring at 5 cloth 1");
        Check.same("to the left till just beside", x.goes(1, false), 4);
        Check.same("and right to the end, drawing the other", x.goes(1, true), 26);
        Check.same("it is not taut", x.taut(), 0);
        Check.same("nor slack", x.slack(), 4);
    }

    /** FADE 0 to 99 (0 at first). */
    private static void fade() {
        RodRings x = Check.made("ring at 0 cloth 9;ring at 1 cloth 9 fade 0;ring at 2 cloth 9 fade 99");
        Check.same("at first", x.ring(0, 4), 0);
        Check.same("0", x.ring(1, 4), 0);
        Check.same("99", x.ring(2, 4), 99);
        wrong("ring at 0 cloth 9 fade 100", 23);
        Check.law(x, "fade 100");
        x.hours(1);
        Check.same("no more than 99", x.ring(0, 4), 99);
        Check.same("no more than 99", x.ring(2, 4), 99);
    }

    /** LONG 0 to 9 (0 at first). */
    private static void lengths() {
        RodRings x = Check.made("ring at 0 cloth 9;ring at 1 cloth 9 long 0;ring at 2 cloth 9 long 9");
        Check.same("at first", x.ring(0, 5), 0);
        Check.same("0", x.ring(1, 5), 0);
        Check.same("9", x.ring(2, 5), 9);
        wrong("ring at 0 cloth 9 long 10", 23);
        Check.refused("-1", IllegalArgumentException.class, x, () -> x.let(0, -1));
        Check.refused("10", IllegalArgumentException.class, x, () -> x.let(0, 10));
    }

    /** HOOKED or not (HOOKED at first). */
    private static void hookedAtFirst() {
        RodRings x = Check.made(EIGHT);
        Check.same("none is loose", x.loose(), 0);
        RodRings y = new RodRings();
        y.sew(3, 4);
        y.hook(0, false);
        y.sew(4, 4);
        Check.same("the second is hooked", y.loose(), 1);
        Check.same("the second is hooked", y.ring(1, 6), 1);
    }

    /** CAUGHT on the next one or not (not at first; the last one never). */
    private static void caughtOnTheNext() {
        RodRings x = Check.made(EIGHT);
        Check.same("at first", x.caught(), 0);
        Check.refused("the last one", IllegalStateException.class, x, () -> x.snag(7));
        wrongOn(x, "caught 7", 7);
        Check.law(x, "catch 100");
        Check.same("all but the last", x.hours(1), 7);
        Check.same("all but the last", x.caught(), 0x7f);
        RodRings one = Check.made("ring at 3 cloth 1");
        Check.law(one, "catch 100");
        Check.same("one alone never", one.hours(80), 0);
        Check.same("one alone never", one.caught(), 0);
    }

    /** GAP of a RING: how far the next one is. */
    private static void gap() {
        RodRings x = Check.made(Check.rings(0, 1, 10));
        Check.same("the least", x.ring(0, 8), 1);
        Check.same("the most", x.ring(1, 8), 9);
        Check.same("none of the last one", x.ring(2, 8), -1);
    }

    /** JOIN 1 to 31 (16 at first): between the PLACE ahead of it and itself no THICK one goes. */
    private static void join() {
        Check.same("at first", new RodRings().count(5), 16);
        wrong("join 0", 5);
        right("join 1");
        right("join 31");
        wrong("join 32", 5);
        Check.same("ahead of the first", Check.made("ring at 15 cloth 1 thick").goes(0, true), 0);
        Check.same("behind the first", Check.made("ring at 16 cloth 1 thick").goes(0, false), 0);
        Check.same("away to the left", Check.made("ring at 15 cloth 1 thick").goes(0, false), 15);
        Check.same("away to the right", Check.made("ring at 16 cloth 1 thick").goes(0, true), 15);
        Check.same("join 1 from 0", Check.made("ring at 0 cloth 1 thick;join 1").goes(0, true), 0);
        Check.same("join 1 from 31", Check.made("ring at 31 cloth 1 thick;join 1").goes(0, false), 30);
        Check.same("join 31 from 0", Check.made("ring at 0 cloth 1 thick;join 31").goes(0, true), 30);
        Check.same("join 31 from 31", Check.made("ring at 31 cloth 1 thick;join 31").goes(0, false), 0);
        Check.same("a thin one goes over", Check.made("ring at 0 cloth 1").goes(0, true), 31);
    }

    /** CHAIRS: PLACES, as bits 0 to 31 (none at first). */
    private static void chairs() {
        RodRings x = new RodRings();
        Check.same("at first", x.count(7), 0);
        for (int place = 0; place < 32; place++) {
            Check.yes("put", x.chair(place, true));
        }
        Check.same("everywhere", x.count(7), -1);
        Check.yes("taken", x.chair(31, false));
        Check.same("but for 31", x.count(7), Integer.MAX_VALUE);
    }

    /** WIDE 0 to 31 (8 at first). */
    private static void wide() {
        Check.same("at first", new RodRings().count(6), 8);
        Check.same("0", Check.made("wide 0").count(6), 0);
        Check.same("31", Check.made("wide 31").count(6), 31);
        wrong("wide 32", 5);
        RodRings x = Check.made(Check.rings(0, 8, 9));
        Check.same("8 wide", x.lit(0), 3);
    }

    /** In the HOUR h it lights PLACES from 4 times h on to 4 times h and WIDE together (both too, 31 at most). */
    private static void sunLights() {
        for (int hour = 0; hour < 8; hour++) {
            int from = 4 * hour;
            for (int wide = 0; wide <= 31; wide += wide < 3 ? 1 : 4) {
                for (int place = Math.max(0, from - 1); place <= 31; place++) {
                    RodRings x = Check.made("ring at " + place + " cloth 1;wide " + wide);
                    boolean due = place >= from && place <= from + wide;
                    Check.same("wide " + wide + " hour " + hour + " place " + place, x.lit(hour), due ? 1 : 0);
                }
            }
        }
    }

    /** HOUR 0 to 7 (0 at first), DAY 0 to 9999 (0 at first). Told in a text: day: 0 to 999. */
    private static void hourAndDay() {
        RodRings x = new RodRings();
        Check.same("hour at first", x.count(3), 0);
        Check.same("day at first", x.count(4), 0);
        Check.same("hour 7", Check.made("hour 7").count(3), 7);
        wrong("hour 8", 5);
        Check.same("hour 0 again", Check.made("hour 7;hour 0").count(3), 0);
        Check.same("day 999", Check.made("day 999").count(4), 999);
        Check.same("day 0 again", Check.made("day 999;day 0").count(4), 0);
        wrong("day 1000", 4);
        RodRings late = Check.made("day 999;hour 7");
        late.hours(1);
        Check.same("hours go on behind day 999", late.count(4), 1000);
    }

    /** NOISE 0 to 9999 (0 at first). */
    private static void noise() {
        RodRings x = Check.made("ring at 0 cloth 1;ring at 1 cloth 1;ring at 2 cloth 1;ring at 3 cloth 1;"
                + "ring at 4 cloth 1;ring at 5 cloth 1;ring at 6 cloth 1");
        Check.same("at first", x.count(8), 0);
        int due = 0;
        for (int i = 0; i < 58; i++) {
            Check.same("there and back", x.pull(0, i % 2 == 0, 31), 25);
            due = Math.min(9999, due + 175);
            Check.same("noise", x.count(8), due);
        }
        Check.same("no more than 9999", due, 9999);
        Check.same("it still goes", x.goes(0, true), 25);
    }

    /** THE POLE is told in texts (at most 12, one behind another). */
    private static void twelveTexts() {
        RodRings x = new RodRings();
        for (int i = 1; i <= 12; i++) {
            Check.same("text", Check.pole(x, i <= 8 ? "ring at " + i + " cloth 1" : "chair " + i), i);
        }
        Check.same("all that they told", x.count(0), 8);
        Check.same("all that they told", x.count(7), 0x1e00);
        String before = Check.hanging(x);
        Check.feed(x, "chair 1");
        Check.fails("a 13th", UnsupportedOperationException.class, x::pole);
        Check.yes("nothing of it", before.equals(Check.hanging(x)));
        Check.feed(x, "");
        Check.fails("an empty 13th", UnsupportedOperationException.class, x::pole);
    }

    /** LINE { ; LINE }, at most 14. */
    private static void fourteenLines() {
        String fourteen = "hour 1" + ";hour 1".repeat(12) + ";hour 5";
        Check.same("the 14th holds", Check.made(fourteen).count(3), 5);
        wrong(fourteen + ";hour 6", fourteen.length() + 1);
        wrong(fourteen + " ; hour 6", fourteen.length() + 3);
        wrong(fourteen + ";", fourteen.length() + 1);
        wrong(fourteen + "; nonsense", fourteen.length() + 2);
        wrong(fourteen + " hour 6", fourteen.length() + 1);
    }

    /** at: a PLACE right of that of the last RING, and no farther from it than its CLOTH, else it is wrong. */
    private static void ringAt() {
        RodRings x = Check.made("ring at 3 cloth 4");
        wrongOn(x, "ring at 3 cloth 1", 8);
        wrongOn(x, "ring at 2 cloth 1", 8);
        wrongOn(x, "ring at 8 cloth 1", 8);
        x.pull(0, true, 5);
        wrongOn(x, "ring at 7 cloth 1", 8);
        wrongOn(x, "ring at 13 cloth 1", 8);
        Check.same("by where it is now", Check.pole(x, "ring at 12 cloth 1"), 2);
        RodRings end = Check.made("ring at 31 cloth 9");
        for (int place = 0; place <= 40; place++) {
            wrongOn(end, "ring at " + place + " cloth 1", 8);
        }
        RodRings near = Check.made("ring at 29 cloth 9");
        wrongOn(near, "ring at 32 cloth 1", 8);
        Check.same("31", Check.pole(near, "ring at 31 cloth 1"), 2);
    }

    /** caught: a RING that has a next one by then. */
    private static void caughtLine() {
        wrong("caught 0", 7);
        wrong("ring at 0 cloth 9;caught 0", 25);
        wrong("ring at 0 cloth 9;caught 0;ring at 1 cloth 9", 25);
        right("ring at 0 cloth 9;ring at 1 cloth 9;caught 0");
        wrong("ring at 0 cloth 9;ring at 1 cloth 9;caught 1", 43);
        wrong("ring at 0 cloth 9;ring at 1 cloth 9;caught 2", 43);
        wrong("ring at 0 cloth 9;ring at 1 cloth 9;caught 999", 43);
        Check.same("the seventh of eight", Check.made(EIGHT + ";caught 6").caught(), 64);
        wrong(EIGHT + ";caught 7", EIGHT.length() + 8);
        Check.same("told twice", Check.made("ring at 0 cloth 9;ring at 1 cloth 9;caught 0;caught 0").caught(), 1);
    }

    /** chair: a PLACE; fade: 0 to 99; long: 0 to 9; day: 0 to 999. */
    private static void numbersOfAPole() {
        Check.same("chairs", Check.made("chair 0;chair 31;chair 0").count(7), 0x80000001);
        wrong("chair 32", 6);
        wrong("chair 999", 6);
        right("ring at 1 cloth 1 fade 99 long 9");
        wrong("ring at 1 cloth 1 fade 100 long 9", 23);
        wrong("ring at 1 cloth 1 fade 99 long 10", 31);
        wrong("ring at 1 cloth 1 fade long 9", 23);
        right("day 999");
        wrong("day 1000", 4);
    }

    /** Numbers are of 1 to 3 digits. */
    private static void digitsOfAPole() {
        Check.same("001", Check.made("hour 001").count(3), 1);
        Check.same("000", Check.made("hour 7;hour 000").count(3), 0);
        wrong("hour 0001", 5);
        wrong("hour 0000", 5);
        wrong("hour", 4);
        wrong("hour ;day 1", 5);
        wrong("ring at 0003 cloth 1", 8);
        wrong("ring at 3 cloth 0001", 16);
        wrong("hour 4294967297", 5);
        wrong("hour 18446744073709551617", 5);
        wrong("hour 1 1", 7);
    }

    /** ring at N cloth N [ thick ] [ wood ] [ fade N ] [ long N ]: none of these twice, or ahead of its turn. */
    private static void optionsInTheirOrder() {
        for (int set = 0; set < 16; set++) {
            RodRings x = Check.made("ring at 1 cloth 1" + ((set & 1) > 0 ? " thick" : "") + ((set & 2) > 0 ? " wood" : "")
                    + ((set & 4) > 0 ? " fade 5" : "") + ((set & 8) > 0 ? " long 6" : ""));
            Check.same("thick", x.ring(0, 2), set & 1);
            Check.same("wood", x.ring(0, 3), (set & 2) / 2);
            Check.same("fade", x.ring(0, 4), (set & 4) > 0 ? 5 : 0);
            Check.same("long", x.ring(0, 5), (set & 8) > 0 ? 6 : 0);
        }
        wrong("ring at 1 cloth 1 wood thick", 23);
        wrong("ring at 1 cloth 1 fade 1 wood", 25);
        wrong("ring at 1 cloth 1 long 1 fade 1", 25);
        wrong("ring at 1 cloth 1 wood wood", 23);
        wrong("ring at 1 cloth 1 long 1 long 1", 25);
        wrong("ring cloth 1 at 1", 5);
    }

    /** THE LAW: LINE { ; LINE }, at most 12. */
    private static void twelveLawLines() {
        String twelve = "fall 1" + ";fall 1".repeat(11);
        lawIsRight(twelve, 12);
        lawIsWrong(twelve + ";fall 1", twelve.length() + 1);
        lawIsWrong(twelve + "; fall 1", twelve.length() + 2);
        lawIsWrong(twelve + ";", twelve.length() + 1);
        RodRings x = Check.made("ring at 0 cloth 1");
        Check.law(x, twelve);
        Check.same("all twelve hold", x.ring(0, 11), 12);
    }

    /** All numbers are of 1 to 3 digits (N 0 to 100). */
    private static void lawNumbers() {
        for (String word : new String[] {"fade", "catch", "fall"}) {
            lawIsRight(word + " 0", 1);
            lawIsRight(word + " 100", 1);
            lawIsRight(word + " 007", 1);
            lawIsWrong(word + " 101", word.length() + 1);
            lawIsWrong(word + " 999", word.length() + 1);
            lawIsWrong(word + " 0100", word.length() + 1);
            lawIsWrong(word + " if lit", word.length() + 1);
        }
    }

    /** A NUMBER of a PART is of 1 to 3 digits. */
    private static void lawDigits() {
        lawIsRight("fade 1 if 0 < 999", 1);
        lawIsRight("fade 1 if 000 < 999", 1);
        lawIsWrong("fade 1 if 1000 > 1", 10);
        lawIsWrong("fade 1 if 0001 > 1", 10);
        lawIsWrong("fade 1 if 1 > 1000", 14);
        lawIsWrong("fade 1 if 1 + 1000 > 1", 14);
        lawIsWrong("fade 1 if 1 > 1 + 4294967296", 18);
    }

    private static boolean holds(String condition) {
        RodRings x = Check.made("ring at 3 cloth 2 wood");
        Check.law(x, "fade 1 if " + condition);
        return x.ring(0, 9) == 1;
    }

    /** SUM < SUM, SUM > SUM: neither holds of like ones; SUM: PART { + PART }. */
    private static void sumsAndSigns() {
        Check.no("3 < 3", holds("place < 3"));
        Check.no("3 > 3", holds("place > 3"));
        Check.yes("3 < 4", holds("place < 4"));
        Check.yes("3 > 2", holds("place > 2"));
        Check.no("4 < 3", holds("4 < place"));
        Check.yes("999 + 999 > 999 + 998", holds("999 + 999 > 999 + 998"));
        Check.no("999 + 999 < 999 + 998", holds("999 + 999 < 999 + 998"));
        StringBuilder many = new StringBuilder("999");
        for (int i = 0; i < 89; i++) {
            many.append("+999");
        }
        Check.yes("a sum of 90", holds(many + " > 998"));
        Check.no("a sum of 90", holds(many + " < 998"));
    }

    /** gap: its GAP (99 of the last one). */
    private static void lawOfTheLastGap() {
        RodRings x = Check.made(Check.rings(0, 9));
        Check.law(x, "fade 1 if gap > 8;fade 2 if gap < 10;fade 4 if gap > 98;fade 8 if gap < 100");
        Check.same("9", x.ring(0, 9), 1 + 2 + 8);
        Check.same("99", x.ring(1, 9), 1 + 4 + 8);
        x.sew(10, 1);
        Check.same("1, now that it has a next one", x.ring(1, 9), 2 + 8);
    }

    /** lit: the SUN lights its PLACE in the HOUR that it is. */
    private static void lawOfLit() {
        RodRings x = Check.made(Check.rings(3, 4, 12, 13) + ";hour 1");
        Check.law(x, "fade 1 if lit;fade 2 if not lit");
        int[] due = {2, 1, 1, 2};
        for (int i = 0; i < 4; i++) {
            Check.same("lit of " + i, x.ring(i, 9), due[i]);
        }
    }

    /** Without a text: FADES 1, if it is lit, else 0; CATCHES 10, FALLS 0. */
    private static void withoutALaw() {
        RodRings x = Check.made(Check.rings(8, 9));
        Check.same("fades, lit", x.ring(0, 9), 1);
        Check.same("fades, not lit", x.ring(1, 9), 0);
        for (int i = 0; i < 2; i++) {
            Check.same("catches", x.ring(i, 10), 10);
            Check.same("falls", x.ring(i, 11), 0);
        }
        Check.law(x, "");
        for (int what = 9; what <= 11; what++) {
            Check.same("an empty text is one", x.ring(0, what), 0);
        }
    }

    /** FADES, CATCHES, FALLS by: the sum of N of all fade, catch, fall LINES that hold. */
    private static void sumOfAllThatHold() {
        RodRings x = Check.made("ring at 3 cloth 2 wood");
        Check.law(x, "fade 100;fade 100;fade 100 if thick;fade 100;catch 0;fall 100 if wood;fall 100 if wood");
        Check.same("fades", x.ring(0, 9), 300);
        Check.same("catches", x.ring(0, 10), 0);
        Check.same("falls", x.ring(0, 11), 200);
    }

    /** Words are as long as a to z go on. */
    private static void words() {
        wrong("ringat 3 cloth 1", 0);
        wrong("ring at 3 clothe 1", 10);
        wrong("rin at 3 cloth 1", 0);
        wrong("ring at 3 cloth 1 thickwood", 18);
        wrong("Ring at 3 cloth 1", 0);
        wrong("rinG at 3 cloth 1", 0);
        wrong("r ing at 3 cloth 1", 0);
        right("ring at3cloth1thick wood fade1long2;chair2");
        lawIsRight("fade1if not(lit)and(hooked)or 1<2", 1);
        lawIsWrong("fade1if notlit", 8);
        lawIsWrong("fade 1 if lit andlit", 14);
        lawIsWrong("fade 1 if placex < 1", 10);
    }

    /** Between all there may be blanks (32), also ahead and behind. */
    private static void blanks() {
        right("   ring   at   3   cloth   1   thick   wood   fade   1   long   1   ;   chair   3   ");
        lawIsRight("   fade   1   if   not   (   lit   )   and   1   +   1   <   3   ;   fall   1   ", 2);
        wrong("\tday 1", 0);
        wrong("day\t1", 3);
        wrong("day 1\n", 5);
        wrong("day 1;\r", 6);
        wrong("day 1 2", 6);
        lawIsWrong("fade 1\n", 6);
        lawIsWrong("fade 1 if 1 2 > 3", 12);
    }

    /** A text that is empty, or blanks alone, has no LINE. */
    private static void noLine() {
        right("");
        right(" ");
        right(" ".repeat(400));
        lawIsRight("", 0);
        lawIsRight(" ", 0);
        lawIsRight(" ".repeat(400), 0);
        wrong(";", 0);
        wrong("  ;", 2);
        lawIsWrong(";", 0);
        wrong("day 1;", 6);
        wrong("day 1;  ", 8);
        lawIsWrong("fade 1;  ", 9);
    }

    /** ( and not within one another at most 6 deep: the ( or not that is a 7th one deep is wrong. */
    private static void sixDeep() {
        for (int brackets = 0; brackets <= 6; brackets++) {
            int nots = 6 - brackets;
            String open = "not ".repeat(nots) + "(".repeat(brackets);
            String close = ")".repeat(brackets);
            lawIsRight("fade 1 if " + open + "lit" + close, 1);
            lawIsRight("fade 1 if " + open + "lit" + close + " and " + open + "lit" + close, 1);
            lawIsWrong("fade 1 if " + open + "(lit)" + close, 10 + open.length());
            lawIsWrong("fade 1 if " + open + "not lit" + close, 10 + open.length());
            lawIsWrong("fade 1 if lit and " + open + "not lit" + close, 18 + open.length());
            if (brackets > 0) {
                lawIsWrong("fade 1 if " + open + "lit or not lit" + close, 17 + open.length());
            }
        }
        // A not ends with its own atom, so the next one stands beside it, not within.
        lawIsRight("fade 1 if not not not not not not lit or not not not not not not lit", 1);
        lawIsRight("fade 1 if ((not not not not lit or (not not not lit)))", 1);
        lawIsWrong("fade 1 if " + "(".repeat(300), 16);
        lawIsWrong("fade 1 if " + "not ".repeat(90), 34);
    }

    /** At each of the 6 depths something is left open: all of it holds in the end. */
    private static void deepestCondition() {
        String open = "thick or wood and (".repeat(6);
        String close = ")".repeat(6);
        Check.yes("deep", holds(open + "thick or wood and 1 + 1 < 2 + 1" + close));
        Check.no("deep", holds(open + "thick or wood and 1 + 2 < 2 + 1" + close));
        Check.yes("deep nots", holds("not not not not not not wood"));
        Check.no("deep nots", holds("not not not not not wood"));
    }

    /** The text's length, if more must come. */
    private static void moreMustCome() {
        String whole = "ring at 3 cloth 1 fade 2 long 3;";
        for (int stop : new int[] {4, 5, 7, 8, 9, 10, 15, 16, 22, 23, 29, 30, 32}) {
            wrong(whole.substring(0, stop), stop);
        }
        String law = "fade 1 if not ( lit ) and 1 + 2 < 3 + 4 or ";
        for (int stop : new int[] {4, 5, 9, 10, 13, 14, 15, 16, 19, 20, 25, 26, 27, 28, 29, 30, 31, 32, 33, 34, 37, 38, 42, 43}) {
            lawIsWrong(law.substring(0, stop), stop);
        }
    }

    /** A TAPE that is full. */
    private static void fullTape() {
        right("day 1" + " ".repeat(395));
        right(" ".repeat(395) + "day 1");
        wrong(" ".repeat(397) + "day", 400);
        wrong("a".repeat(400), 0);
        wrong("1".repeat(400), 0);
        wrong(";".repeat(400), 0);
        wrong(" ".repeat(399) + ";", 399);
        wrong("day " + "1".repeat(396), 4);
        String sum = "fade 1 if 1<1" + "+1".repeat(193);
        lawIsRight(sum, 1);
        lawIsWrong(sum + "+", 400);
        Check.yes("the whole sum", holds("192<1" + "+1".repeat(192)));
        Check.no("the whole sum", holds("193<1" + "+1".repeat(192)));
        lawIsRight("fade 1 if 1<2" + "or 1<2".repeat(64), 1);
    }

    /** The begin of the first thing that cannot stand there: any byte of 0 to 255. */
    private static void strangeBytes() {
        for (int sign = 0; sign < 256; sign++) {
            boolean digit = sign >= '0' && sign <= '9';
            if (!digit && sign != ';' && sign != ' ') {
                wrong("day 1" + (char) sign, 5);
                wrong((char) sign + "day 1", 0);
                lawIsWrong("fade 1" + (char) sign, 6);
            }
            if (!digit && sign != ' ' && sign != '+' && sign != '<' && sign != '>') {
                lawIsWrong("fade 1 if gap" + (char) sign + "3<3", sign >= 'a' && sign <= 'z' ? 10 : 13);
            }
        }
    }

    /** Of a wrong text nothing stays. */
    private static void nothingStays() {
        RodRings x = Check.made(Check.rings(0, 3) + ";chair 1");
        Check.law(x, "fade 3 if 1 < 2;catch 4");
        x.hook(1, false);
        String before = Check.hanging(x);
        wrongOn(x, "ring at 4 cloth 3 thick wood fade 3 long 3;caught 1;chair 3;join 3;wide 3;hour 3;day 3;x", 87);
        Check.yes("of the pole", before.equals(Check.hanging(x)));
        Check.feed(x, "fade 9 if 2 < 1;fall 9;catch 9;x");
        Check.failsArgument("wrong", x::law);
        Check.same("fault", x.fault(), 31);
        Check.yes("of the law", before.equals(Check.hanging(x)));
        Check.same("acts stay, too", x.count(10), 1);
        Check.same("its place is free", x.sew(5, 1), 2);
        Check.same("nor thick nor wood", x.ring(2, 2) + x.ring(2, 3) + x.ring(2, 4) + x.ring(2, 5) + x.ring(2, 7), 0);
    }
}
