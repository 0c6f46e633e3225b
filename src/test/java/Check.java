/** What the tests share: counting wrong answers, feeding texts, and telling what a call throws. */
final class Check {
    /** A call that may throw. */
    interface Call {
        void run();
    }

    private static int wrong;
    private static int asked;

    private Check() {
    }

    static void same(String what, long got, long due) {
        asked++;
        if (got != due) {
            wrong++;
            System.out.println(what + " answered " + got + ", due is " + due);
        }
    }

    static void yes(String what, boolean got) {
        same(what, got ? 1 : 0, 1);
    }

    static void no(String what, boolean got) {
        same(what, got ? 1 : 0, 0);
    }

    static void fails(String what, Class<? extends RuntimeException> due, Call call) {
        asked++;
        String got = "nothing";
        try {
            call.run();
        } catch (RuntimeException e) {
            got = e.getClass().getSimpleName();
        }
        if (!got.equals(due.getSimpleName())) {
            wrong++;
            System.out.println(what + " threw " + got + ", due is " + due.getSimpleName());
        }
    }

    static void failsIndex(String what, Call call) {
        fails(what, IndexOutOfBoundsException.class, call);
    }

    static void failsArgument(String what, Call call) {
        fails(what, IllegalArgumentException.class, call);
    }

    static void failsState(String what, Call call) {
        fails(what, IllegalStateException.class, call);
    }

    static void failsElement(String what, Call call) {
        fails(what, java.util.NoSuchElementException.class, call);
    }

    /** Puts just these bytes on the tape. */
    static void feed(RodRings x, int... bytes) {
        x.end(0);
        for (int from = 0; from < bytes.length; from += 20) {
            int[] five = new int[5];
            for (int i = 0; i < 20; i++) {
                int next = from + i < bytes.length ? bytes[from + i] : 0;
                five[i / 4] = five[i / 4] << 8 | next & 255;
            }
            x.feed(five[0], five[1], five[2], five[3], five[4]);
        }
        x.end(bytes.length);
    }

    static void feed(RodRings x, String text) {
        feed(x, text.chars().toArray());
    }

    static int pole(RodRings x, String text) {
        feed(x, text);
        return x.pole();
    }

    static int law(RodRings x, String text) {
        feed(x, text);
        return x.law();
    }

    static RodRings made(String text) {
        RodRings x = new RodRings();
        pole(x, text);
        return x;
    }

    static void done(String name) {
        System.out.println(name + ": " + asked + " answers, " + wrong + " wrong");
        if (wrong > 0 || asked == 0) {
            System.exit(1);
        }
    }
}
