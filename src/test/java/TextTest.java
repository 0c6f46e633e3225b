/** Promises 1 to 6: a new object, the tape, the two texts and their first wrong byte. */
public final class TextTest {
    private static final String EIGHT_RINGS = "ring at 0 cloth 1;ring at 1 cloth 1;ring at 2 cloth 1;ring at 3 cloth 1;"
            + "ring at 4 cloth 1;ring at 5 cloth 1;ring at 6 cloth 1;ring at 7 cloth 1";

    private TextTest() {
    }

    public static void main(String[] args) {
        newObject();
        tape();
        rightPoles();
        wrongPoles();
        polesTogether();
        twelveTexts();
        rightLaws();
        wrongLaws();
        lawInPlaceOfLaw();
        Check.done("TextTest");
    }

    private static void newObject() {
        RodRings x = new RodRings();
        int[] due = {0, 0, -1, 0, 0, 16, 8, 0, 0, 0, 0};
        for (int what = 0; what < due.length; what++) {
            Check.same("new count " + what, x.count(what), due[what]);
        }
        Check.same("count 11", x.count(11), -1);
        Check.same("count -1", x.count(-1), -1);
        Check.same("fault ahead of any", x.fault(), -1);
        Check.same("seed at first", x.seed(1), 1);
        Check.same("NONE", RodRings.NONE, -1);
        Check.no("nothing to undo", x.undo());
        Check.no("no image", x.back());
    }

    private static void tape() {
        RodRings x = new RodRings();
        for (int i = 1; i <= 20; i++) {
            Check.same("feed", x.feed(0x72696e67, 0, 0, 0, 0), 20 * i);
        }
        Check.same("feed over 400", x.feed(0, 0, 0, 0, 0), -1);
        Check.yes("still 400", x.end(400));
        Check.no("more than it has", x.end(401));
        Check.no("below 0", x.end(-1));
        Check.yes("381", x.end(381));
        Check.same("feed to 401", x.feed(0, 0, 0, 0, 0), -1);
        Check.yes("380", x.end(380));
        Check.same("feed to 400", x.feed(0, 0, 0, 0, 0), 400);
        Check.yes("4", x.end(4));
        Check.no("5 of 4", x.end(5));
        Check.failsArgument("the first bytes are 'ring'", x::pole);
        Check.same("more must come", x.fault(), 4);
        Check.no("used up", x.end(1));
        Check.same("bytes from the highest", x.feed(0x64617920, 0x39000000, 0, 0, 0), 20);
        x.end(5);
        Check.same("day 9", x.pole(), 1);
        Check.same("day", x.count(4), 9);
        x.feed(0x20202020, 0x20202020, 0x20202020, 0x20202020, 0x2020203b);
        Check.failsArgument("; alone", x::law);
        Check.same("; alone", x.fault(), 19);
        Check.no("used up by a wrong law", x.end(1));
    }

    private static void poleIsWrong(String text, int fault) {
        RodRings x = new RodRings();
        Check.feed(x, text);
        Check.failsArgument(text, x::pole);
        Check.same("fault of " + text, x.fault(), fault);
        Check.same("no text of " + text, x.count(1), 0);
        Check.same("no ring of " + text, x.count(0), 0);
        Check.same("no chair of " + text, x.count(7), 0);
        Check.same("join of " + text, x.count(5), 16);
        Check.same("wide of " + text, x.count(6), 8);
        Check.same("hour of " + text, x.count(3), 0);
        Check.same("day of " + text, x.count(4), 0);
        Check.no("used up by " + text, x.end(1));
    }

    private static void rightPoles() {
        RodRings x = Check.made("  ring at0cloth 9thick wood fade 99 long 9 ;ring at 009 cloth 1;caught 0;chair 31; chair 0"
                + ";chair 31;join 31;wide 31;hour 7;day 999  ");
        Check.same("right", x.fault(), -1);
        int[] due = {0, 9, 1, 1, 99, 9, 1, 1, 9};
        for (int what = 0; what < due.length; what++) {
            Check.same("ring 0 " + what, x.ring(0, what), due[what]);
        }
        int[] plain = {9, 1, 0, 0, 0, 0, 1, 0, -1};
        for (int what = 0; what < plain.length; what++) {
            Check.same("ring 1 " + what, x.ring(1, what), plain[what]);
        }
        Check.same("chairs", x.count(7), 1 << 31 | 1);
        Check.same("join", x.count(5), 31);
        Check.same("wide", x.count(6), 31);
        Check.same("hour", x.count(3), 7);
        Check.same("day", x.count(4), 999);
        Check.same("blanks", Check.pole(x, "    "), 2);
        Check.same("nothing", Check.pole(x, ""), 3);
        Check.same("least numbers", Check.pole(x, "join 1;wide 0;hour 0;day 0;chair 0"), 4);
        Check.same("join 1", x.count(5), 1);
        Check.same("wide 0", x.count(6), 0);
        Check.same("wood alone", Check.pole(x, "ring at 10 cloth 1 wood long 3"), 5);
        Check.same("wood", x.ring(2, 3), 1);
        Check.same("long", x.ring(2, 5), 3);
        Check.same("14 lines", Check.pole(x, "day 1;day 1;day 1;day 1;day 1;day 1;day 1;"
                + "day 1;day 1;day 1;day 1;day 1;day 1;day 3"), 6);
        Check.same("the last of 14", x.count(4), 3);
    }

    private static void wrongPoles() {
        poleIsWrong(";", 0);
        poleIsWrong(" ;day 1", 1);
        poleIsWrong("day 1;;day 1", 6);
        poleIsWrong("day 1; ", 7);
        poleIsWrong("day", 3);
        poleIsWrong("day  ", 5);
        poleIsWrong("day1000", 3);
        poleIsWrong("day 0001", 4);
        poleIsWrong("day 1 2", 6);
        poleIsWrong("day 1day 2", 5);
        poleIsWrong("days 1", 0);
        poleIsWrong("Day 1", 0);
        poleIsWrong("day\n1", 3);
        poleIsWrong("day -1", 4);
        poleIsWrong("fade 1", 0);
        poleIsWrong("5", 0);
        poleIsWrong("chair 3;join 32", 13);
        poleIsWrong("wide 3;join 0", 12);
        poleIsWrong("hour 3;day 3;hour 8", 18);
        poleIsWrong("wide 32", 5);
        poleIsWrong("chair 32", 6);
        poleIsWrong("ring 3", 5);
        poleIsWrong("ringat 3", 0);
        poleIsWrong("ring at x", 8);
        poleIsWrong("ring at 32 cloth 1", 8);
        poleIsWrong("ring at 3", 9);
        poleIsWrong("ring at 3 thick", 10);
        poleIsWrong("ring at 3 cloth 0", 16);
        poleIsWrong("ring at 3 cloth 10", 16);
        poleIsWrong("ring at 3 cloth 1 wood thick", 23);
        poleIsWrong("ring at 3 cloth 1 long 1 fade 1", 25);
        poleIsWrong("ring at 3 cloth 1 fade", 22);
        poleIsWrong("ring at 3 cloth 1 fade 100", 23);
        poleIsWrong("ring at 3 cloth 1 long 10", 23);
        poleIsWrong("ring at 3 cloth 1 thick thick", 24);
        poleIsWrong("ring at 3 cloth 2;ring at 3 cloth 1", 26);
        poleIsWrong("ring at 3 cloth 2;ring at 2 cloth 1", 26);
        poleIsWrong("ring at 3 cloth 2;ring at 6 cloth 1", 26);
        poleIsWrong("ring at 31 cloth 2;ring at 32 cloth 1", 27);
        poleIsWrong("caught 0", 7);
        poleIsWrong("ring at 3 cloth 2;caught 0;ring at 4 cloth 1", 25);
        poleIsWrong("ring at 3 cloth 2;ring at 4 cloth 1;caught 1", 43);
        poleIsWrong(EIGHT_RINGS + "; ring at 8 cloth 1", EIGHT_RINGS.length() + 2);
        String fourteen = "day 1;".repeat(14);
        poleIsWrong(fourteen, 84);
        poleIsWrong(fourteen + "  day 1", 86);
        poleIsWrong(fourteen + "  7", 86);
        poleIsWrong("day 1" + (char) 200, 5);
        poleIsWrong("day 1" + (char) 0, 5);
    }

    private static void polesTogether() {
        RodRings x = Check.made("ring at 3 cloth 2");
        Check.feed(x, "ring at 6 cloth 1");
        Check.failsArgument("too far from one of an earlier text", x::pole);
        Check.same("fault", x.fault(), 8);
        Check.same("behind one of an earlier text", Check.pole(x, "ring at 5 cloth 1;caught 0"), 2);
        Check.same("caught", x.caught(), 1);
        Check.feed(x, "caught 1");
        Check.failsArgument("the last one", x::pole);
        Check.same("the last one", x.fault(), 7);
        Check.same("sewn", x.sew(6, 1), 2);
        Check.same("now it has a next one", Check.pole(x, "caught 1"), 3);
        Check.same("caught", x.caught(), 3);
        RodRings full = Check.made(EIGHT_RINGS);
        Check.feed(full, "ring at 8 cloth 1");
        Check.failsArgument("a ninth in a second text", full::pole);
        Check.same("the first word", full.fault(), 0);
    }

    private static void twelveTexts() {
        RodRings x = new RodRings();
        for (int i = 1; i <= 12; i++) {
            Check.same("text", Check.pole(x, "day " + i), i);
        }
        Check.feed(x, "day x");
        Check.failsArgument("a wrong 13th", x::pole);
        Check.same("its fault", x.fault(), 4);
        Check.feed(x, "day 77");
        Check.fails("a right 13th", UnsupportedOperationException.class, x::pole);
        Check.same("it was read", x.fault(), -1);
        Check.same("nothing stays of it", x.count(4), 12);
        Check.same("texts", x.count(1), 12);
        Check.no("used up", x.end(1));
        Check.same("a law still comes", Check.law(x, "fade 1"), 1);
    }

    private static void lawIsWrong(String text, int fault) {
        RodRings x = Check.made("ring at 3 cloth 2");
        Check.feed(x, text);
        Check.failsArgument(text, x::law);
        Check.same("fault of " + text, x.fault(), fault);
        Check.same("no law of " + text, x.count(2), -1);
        Check.same("as without of " + text, x.ring(0, 10), 10);
        Check.no("used up by " + text, x.end(1));
    }

    /** What ring 1 fades by under 'fade 7 if ..'. */
    private static void holds(String condition, boolean due) {
        RodRings x = Check.made("ring at 3 cloth 2 thick;ring at 5 cloth 4 wood fade 30 long 4;ring at 8 cloth 9;"
                + "hour 1;day 6;wide 2");
        Check.law(x, "fade 7 if " + condition);
        Check.same("right: " + condition, x.fault(), -1);
        Check.same(condition, x.ring(1, 9), due ? 7 : 0);
    }

    private static void rightLaws() {
        holds("wood", true);
        holds("thick", false);
        holds("lit", true);
        holds("hooked", true);
        holds("not wood", false);
        holds("not not wood", true);
        holds("ring > 0 and ring < 2", true);
        holds("place > 4 and place < 6", true);
        holds("gap > 2 and gap < 4", true);
        holds("fade > 29 and fade < 31", true);
        holds("long > 3 and long < 5", true);
        holds("hour > 0 and hour < 2", true);
        holds("day > 5 and day < 7", true);
        holds("1 + 2 + place < 9", true);
        holds("1 + 2 + place < 8", false);
        holds("8 < 1 + 2 + place", false);
        holds("7 < 1 + 2 + place", true);
        holds("999 > 998", true);
        holds("wood or thick and thick", true);
        holds("thick and thick or wood", true);
        holds("(wood or thick) and thick", false);
        holds("thick and (thick or wood)", false);
        holds("not thick and wood", true);
        holds("not wood or wood", true);
        holds("not(wood or wood)", false);
        holds("not thick and thick", false);
        holds("thick or thick or wood or thick", true);
        holds("wood and wood and thick and wood", false);
        holds("((((((wood))))))", true);
        holds("not not not not not not wood", true);
        holds("not(not(not(wood)))", false);
        holds("not not not not not not wood and not not not not not not wood", true);
        holds("((((((1<2 or thick)and wood or thick)and wood)))or thick)", true);
        RodRings x = Check.made("ring at 3 cloth 2;ring at 4 cloth 2");
        Check.same("last one's gap", Check.law(x, "fade 1 if gap > 98;fade 2 if gap < 100;fade 4 if gap < 99"), 3);
        Check.same("a gap of 1", x.ring(0, 9), 6);
        Check.same("99", x.ring(1, 9), 3);
        Check.same("sums", Check.law(x, "fade 100;catch 100;fall 100;fade 100;catch 0;fall 100;fall 9 if ring > 0"), 7);
        Check.same("fades", x.ring(0, 9), 200);
        Check.same("catches", x.ring(0, 10), 100);
        Check.same("falls", x.ring(0, 11), 200);
        Check.same("falls", x.ring(1, 11), 209);
    }

    private static void wrongLaws() {
        lawIsWrong(";", 0);
        lawIsWrong("ring at 3 cloth 1", 0);
        lawIsWrong("fade", 4);
        lawIsWrong("fade ", 5);
        lawIsWrong("fade 101", 5);
        lawIsWrong("fade 0001", 5);
        lawIsWrong("fade 1;", 7);
        lawIsWrong("fade 1 lit", 7);
        lawIsWrong("fade 1 if", 9);
        lawIsWrong("fade 1 iflit", 7);
        lawIsWrong("fade 1 if lit lit", 14);
        lawIsWrong("fade 1 if lit + 3 > 2", 14);
        lawIsWrong("fade 1 if gap", 13);
        lawIsWrong("fade 1 if gap and", 14);
        lawIsWrong("fade 1 if gap <", 15);
        lawIsWrong("fade 1 if gap < lit", 16);
        lawIsWrong("fade 1 if gap + < 3", 16);
        lawIsWrong("fade 1 if gap < 3 +", 19);
        lawIsWrong("fade 1 if gap < 3 < 4", 18);
        lawIsWrong("fade 1 if gap = 3", 14);
        lawIsWrong("fade 1 if gap < 1000", 16);
        lawIsWrong("fade 1 if (gap) < 3", 14);
        lawIsWrong("fade 1 if (lit", 14);
        lawIsWrong("fade 1 if lit)", 13);
        lawIsWrong("fade 1 if ()", 11);
        lawIsWrong("fade 1 if not", 13);
        lawIsWrong("fade 1 if not and", 14);
        lawIsWrong("fade 1 if lit and", 17);
        lawIsWrong("fade 1 if lit or or", 17);
        lawIsWrong("fade 1 if caught", 10);
        lawIsWrong("fade 1 if wide > 3", 10);
        lawIsWrong("fade 1 if (((((((lit)))))))", 16);
        lawIsWrong("fade 1 if ((((((not lit))))))", 16);
        lawIsWrong("fade 1 if not not not(((((lit", 24);
        String twelve = "fall 1;".repeat(12);
        lawIsWrong(twelve, 84);
        lawIsWrong(twelve + " fall 1", 85);
    }

    private static void lawInPlaceOfLaw() {
        RodRings x = Check.made("ring at 3 cloth 2;ring at 5 cloth 2");
        Check.same("fades without", x.ring(0, 9), 1);
        Check.same("catches without", x.ring(0, 10), 10);
        Check.same("falls without", x.ring(0, 11), 0);
        Check.same("one", Check.law(x, "fall 5"), 1);
        Check.same("fades", x.ring(0, 9), 0);
        Check.same("catches", x.ring(0, 10), 0);
        Check.same("falls", x.ring(0, 11), 5);
        Check.same("two", Check.law(x, "fade 3;fade 4"), 2);
        Check.same("in place", x.ring(0, 11), 0);
        Check.same("fades", x.ring(0, 9), 7);
        Check.feed(x, "fall");
        Check.failsArgument("wrong", x::law);
        Check.same("lines", x.count(2), 2);
        Check.same("stays", x.ring(0, 9), 7);
        for (int i = 0; i < 9; i++) {
            Check.same("long ones", Check.law(x, "fade 5 if " + "1<2 and ".repeat(40) + "ring < " + i), 1);
            Check.same("one behind another", x.ring(1, 9), i > 1 ? 5 : 0);
        }
        Check.same("empty", Check.law(x, "  "), 0);
        Check.same("no line", x.count(2), 0);
        Check.same("nothing fades", x.ring(0, 9), 0);
        Check.same("nothing catches", x.ring(0, 10), 0);
    }
}
