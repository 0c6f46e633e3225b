/** What the tests share: counting wrong answers, feeding texts, and telling what a call throws. */
final class Check {
    /** A call that may throw. */
    interface Call {
        void run();
    }

    /** A call with one number on an object. */
    interface NumberCall {
        void run(RodRings x, int n);
    }

    /** Makes a new object. */
    interface Maker {
        RodRings make();
    }

    private static int wrong;
    private static int asked;

    private Check() {
    }

    static void same(String what, long got, long due) {
        asked++;
        if (got != due) {
            wrong++;
            System.out.println(what + " answered " + got + ", due is " + due);
        }
    }

    static void yes(String what, boolean got) {
        same(what, got ? 1 : 0, 1);
    }

    static void no(String what, boolean got) {
        same(what, got ? 1 : 0, 0);
    }

    static void fails(String what, Class<? extends RuntimeException> due, Call call) {
        asked++;
        String got = "nothing";
        try {
            call.run();
        } catch (RuntimeException e) {
            got = e.getClass().getSimpleName();
        }
        if (!got.equals(due.getSimpleName())) {
            wrong++;
            System.out.println(what + " threw " + got + ", due is " + due.getSimpleName());
        }
    }

    static void failsIndex(String what, Call call) {
        fails(what, IndexOutOfBoundsException.class, call);
    }

    static void failsArgument(String what, Call call) {
        fails(what, IllegalArgumentException.class, call);
    }

    static void failsState(String what, Call call) {
        fails(what, IllegalStateException.class, call);
    }

    static void failsElement(String what, Call call) {
        fails(what, java.util.NoSuchElementException.class, call);
    }

    /** Puts just these bytes on the tape. */
    static void feed(RodRings x, int... bytes) {
        x.end(0);
        for (int from = 0; from < bytes.length; from += 20) {
            int[] five = new int[5];
            for (int i = 0; i < 20; i++) {
                int next = from + i < bytes.length ? bytes[from + i] : 0;
                five[i / 4] = five[i / 4] << 8 | next & 255;
            }
            x.feed(five[0], five[1], five[2], five[3], five[4]);
        }
        x.end(bytes.length);
    }

    static void feed(RodRings x, String text) {
        feed(x, text.chars().toArray());
    }

    static int pole(RodRings x, String text) {
        feed(x, text);
        return x.pole();
    }

    static int law(RodRings x, String text) {
        feed(x, text);
        return x.law();
    }

    static RodRings made(String text) {
        RodRings x = new RodRings();
        pole(x, text);
        return x;
    }

    /** Rings at these places, each with as much cloth as can be. */
    static String rings(int... places) {
        StringBuilder text = new StringBuilder();
        for (int place : places) {
            text.append(text.length() == 0 ? "" : ";").append("ring at ").append(place).append(" cloth 9");
        }
        return text.toString();
    }

    /** All that can be told of an object, but for the tape and the image. */
    static String told(RodRings x) {
        return hanging(x) + ' ' + x.count(10) + ' ' + x.fault();
    }

    /** All that undoing and going back bring back. */
    static String hanging(RodRings x) {
        StringBuilder b = new StringBuilder();
        for (int what = 0; what < 10; what++) {
            b.append(x.count(what)).append(' ');
        }
        for (int ring = 0; ring < x.count(0); ring++) {
            for (int what = 0; what < 14; what++) {
                b.append(x.ring(ring, what)).append(' ');
            }
        }
        for (int ago = 0; ago < x.count(9); ago++) {
            for (int what = 0; what < 6; what++) {
                b.append(x.log(ago, what)).append(' ');
            }
        }
        int seed = x.seed(0);
        x.seed(seed);
        return b.append(seed).toString();
    }

    /** The call throws this and changes nothing, nor the tape. */
    static void refused(String what, Class<? extends RuntimeException> due, RodRings x, Call call) {
        x.end(0);
        x.feed(1, 2, 3, 4, 5);
        String before = told(x);
        fails(what, due, call);
        yes(what + ": nothing changed", before.equals(told(x)));
        same(what + ": the tape stays", x.feed(1, 2, 3, 4, 5), 40);
        x.end(0);
    }

    /** The numbers from least to most are taken; those just outside, and those far outside, are refused. */
    static void bounds(String what, Maker maker, int least, int most, Class<? extends RuntimeException> due,
            NumberCall call) {
        for (int n : new int[] {least, most}) {
            String got = "nothing";
            try {
                call.run(maker.make(), n);
            } catch (RuntimeException e) {
                got = e.getClass().getSimpleName();
            }
            yes(what + " of " + n + " threw " + got, got.equals("nothing"));
        }
        for (int n : new int[] {least - 1, most + 1, Integer.MIN_VALUE, Integer.MAX_VALUE}) {
            RodRings x = maker.make();
            refused(what + " of " + n, due, x, () -> call.run(x, n));
        }
    }

    static void done(String name) {
        System.out.println(name + ": " + asked + " answers, " + wrong + " wrong");
        if (wrong > 0 || asked == 0) {
            System.exit(1);
        }
    }
}
