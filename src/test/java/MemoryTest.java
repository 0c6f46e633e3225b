/** Promises 49 to 55: the log, the seed, acts undone, the image and the counts. */
public final class MemoryTest {
    private static final String THREE = "ring at 0 cloth 9;ring at 1 cloth 9;ring at 4 cloth 9;chair 3";

    private MemoryTest() {
    }

    public static void main(String[] args) {
        logOfPulls();
        logOfHours();
        logIsFull();
        undoEach();
        undoAll();
        fullLogComesBack();
        undoForgets();
        image();
        Check.done("MemoryTest");
    }

    private static void row(RodRings x, int ago, int... due) {
        for (int what = 0; what < due.length; what++) {
            Check.same("row " + ago + " what " + what, x.log(ago, what), due[what]);
        }
    }

    private static void logOfPulls() {
        RodRings x = Check.made(THREE + ";day 5;hour 3");
        Check.same("without", x.log(0, 0), -1);
        Check.same("led", x.led(0, false), 0);
        Check.same("led", x.led(0, true), -1);
        x.pull(2, true, 4);
        x.pull(0, false, 1);
        row(x, 0, 5, 3, 0, 0, 0, 0);
        row(x, 1, 5, 3, 2, 0, 4, 8);
        row(x, 2, -1, -1, -1, -1, -1, -1);
        Check.same("before", x.log(-1, 0), -1);
        Check.failsElement("what 6", () -> x.log(0, 6));
        Check.failsElement("what -1", () -> x.log(0, -1));
        Check.failsElement("also without", () -> x.log(9, 6));
        x.pull(2, false, 2);
        Check.same("led", x.led(2, false), 2);
        Check.same("the latest", x.led(2, true), 6);
        Check.same("led", x.led(1, false), 0);
        Check.same("led", x.led(1, true), -1);
        Check.failsIndex("no ring", () -> x.led(3, true));
        Check.failsIndex("no ring", () -> x.led(-1, false));
        x.snag(0);
        x.hook(0, false);
        x.let(0, 3);
        Check.same("pulls alone", x.count(9), 3);
    }

    private static void logOfHours() {
        RodRings x = Check.made(THREE + ";hour 7;day 41");
        Check.law(x, "catch 100;fall 100 if ring > 0 and day > 41");
        x.hours(2);
        row(x, 2, 41, 7, 0, 1, 0, 0);
        row(x, 1, 42, 0, 1, 2, 0, 1);
        row(x, 0, 42, 0, 2, 2, 0, 4);
        Check.same("rows", x.count(9), 3);
        Check.same("place of the latest", x.led(2, true), 4);
    }

    private static void logIsFull() {
        RodRings x = Check.made("ring at 0 cloth 9;ring at 9 cloth 9;day 999");
        for (int i = 0; i < 64; i++) {
            x.pull(i % 4 == 0 ? 1 : 0, i % 2 == 0, 1 + i % 31);
        }
        Check.same("60", x.count(9), 60);
        Check.same("60 ago", x.log(60, 0), -1);
        Check.same("59 ago", x.log(59, 2), 1);
        Check.same("led", x.led(1, false), 15);
        Check.same("led", x.led(0, false), 45);
        Check.same("day", x.log(59, 0), 999);
        x.undo();
        Check.same("60 again", x.count(9), 60);
        Check.same("as ahead of it", x.log(59, 2), 0);
    }

    private static void act(RodRings x, int which) {
        switch (which) {
            case 0:
                x.pull(2, true, 2);
                break;
            case 1:
                x.free(1);
                break;
            case 2:
                x.snag(0);
                break;
            case 3:
                x.hook(0, false);
                break;
            case 4:
                x.sew(6, 3);
                break;
            case 5:
                x.let(1, 4);
                break;
            case 6:
                x.chair(9, true);
                break;
            case 7:
                x.hours(9);
                break;
            case 8:
                x.pull(0, false, 1);
                break;
            case 9:
                x.hook(1, true);
                break;
            default:
                x.chair(3, true);
                break;
        }
    }

    private static void undoEach() {
        for (int which = 0; which <= 10; which++) {
            RodRings x = Check.made(THREE + ";caught 1");
            x.pull(2, true, 1);
            x.seed(77);
            String before = Check.hanging(x);
            act(x, which);
            Check.same("an act is remembered", x.count(10), 2);
            x.seed(3);
            Check.yes("undone", x.undo());
            Check.yes("as ahead of act " + which, before.equals(Check.hanging(x)));
            Check.same("one is left", x.count(10), 1);
        }
    }

    private static void undoAll() {
        RodRings x = Check.made(THREE);
        String[] before = new String[20];
        for (int i = 0; i < 20; i++) {
            before[i] = Check.hanging(x);
            if (i % 3 == 0) {
                x.hours(1 + i);
            } else {
                x.pull(i % 3, i % 2 == 0, 1 + i);
            }
            Check.same("12 at most", x.count(10), Math.min(12, i + 1));
        }
        for (int i = 19; i >= 8; i--) {
            Check.yes("undone", x.undo());
            Check.yes("as ahead of " + i, before[i].equals(Check.hanging(x)));
        }
        Check.no("no more", x.undo());
        Check.yes("nothing happened", before[8].equals(Check.hanging(x)));
        x.hook(0, false);
        Check.same("one again", x.count(10), 1);
        Check.yes("undone", x.undo());
        Check.yes("as before", before[8].equals(Check.hanging(x)));
    }

    private static void fullLogComesBack() {
        RodRings x = Check.made(THREE);
        for (int i = 0; i < 70; i++) {
            x.pull(i % 3, i % 5 < 3, 1 + i % 7);
        }
        x.image();
        String kept = Check.hanging(x);
        String[] before = new String[12];
        for (int i = 0; i < 12; i++) {
            before[i] = Check.hanging(x);
            x.pull((i + 1) % 3, i % 2 == 0, 1 + i);
        }
        for (int i = 11; i >= 0; i--) {
            x.undo();
            Check.yes("the rows that were pushed out are there again", before[i].equals(Check.hanging(x)));
        }
        for (int i = 0; i < 65; i++) {
            x.pull(2, i % 2 == 0, 3);
        }
        Check.yes("back", x.back());
        Check.yes("all rows of the image", kept.equals(Check.hanging(x)));
    }

    private static void undoForgets() {
        RodRings x = Check.made(THREE);
        x.hook(0, false);
        Check.feed(x, "hour 9");
        Check.failsArgument("wrong", x::pole);
        Check.feed(x, "hour 9");
        Check.failsArgument("wrong", x::law);
        Check.failsState("cannot", () -> x.free(0));
        Check.same("still remembered", x.count(10), 1);
        x.feed(1, 2, 3, 4, 5);
        int fault = x.fault();
        Check.yes("undone", x.undo());
        Check.yes("the tape stays", x.end(20));
        Check.same("fault stays", x.fault(), fault);
        x.hook(0, false);
        Check.pole(x, "");
        Check.same("a text of the pole", x.count(10), 0);
        Check.no("nothing to undo", x.undo());
        x.hook(1, false);
        Check.law(x, "");
        Check.no("a law", x.undo());
        Check.same("stays", x.loose(), 3);
        x.hook(2, false);
        x.image();
        Check.same("an image is no act, and nothing is forgotten", x.count(10), 1);
        x.seed(4);
        Check.same("nor is a seed", x.count(10), 1);
        Check.yes("going back", x.back());
        Check.no("nothing to undo", x.undo());
    }

    private static void image() {
        RodRings x = Check.made(THREE);
        Check.no("none was kept", x.back());
        Check.law(x, "fade 2;catch 50");
        x.hours(3);
        x.pull(2, true, 2);
        String first = Check.hanging(x);
        x.image();
        Check.law(x, "fade 3");
        Check.pole(x, "ring at 8 cloth 1;day 7;join 4;wide 3;hour 2;chair 8");
        x.hours(20);
        x.seed(12);
        x.feed(1, 2, 3, 4, 5);
        Check.yes("back", x.back());
        Check.yes("as it was", first.equals(Check.hanging(x)));
        Check.yes("the tape stays", x.end(20));
        x.hours(20);
        x.undo();
        x.hook(0, false);
        Check.yes("back again", x.back());
        Check.yes("as it was", first.equals(Check.hanging(x)));
        x.sew(10, 1);
        String second = Check.hanging(x);
        x.image();
        Check.yes("undone", x.undo());
        Check.yes("the image stays", x.back());
        Check.yes("the second", second.equals(Check.hanging(x)));
        RodRings y = new RodRings();
        y.image();
        Check.law(y, "fade 1");
        Check.pole(y, THREE);
        Check.feed(y, "day x");
        Check.failsArgument("wrong", y::pole);
        Check.yes("a bare pole", y.back());
        Check.same("no law", y.count(2), -1);
        Check.same("no text", y.count(1), 0);
        Check.same("no ring", y.count(0), 0);
        Check.same("fault stays", y.fault(), 4);
    }
}
