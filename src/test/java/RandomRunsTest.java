import java.lang.reflect.InvocationTargetException;
import java.lang.reflect.Method;
import java.lang.reflect.Modifier;
import java.util.ArrayList;
import java.util.List;
import java.util.Random;

/** Long runs of calls, right and wrong ones, on RodRings and on the plain model: all answers must be the same. */
public final class RandomRunsTest {
    private static final int RUNS = 500;
    private static final int CALLS = 500;

    private final Random random;
    private final RodRings real = new RodRings();
    private final Model model = new Model();
    private final List<String> told = new ArrayList<>();
    private final int mostActs;

    private RandomRunsTest(long seed) {
        random = new Random(seed);
        // Some runs act most of the time, so that the log and what is remembered come round.
        mostActs = 20 + random.nextInt(70);
    }

    public static void main(String[] args) throws ReflectiveOperationException {
        long from = args.length > 0 ? Long.parseLong(args[0]) : 1;
        int runs = args.length > 1 ? Integer.parseInt(args[1]) : RUNS;
        for (long seed = from; seed < from + runs; seed++) {
            RandomRunsTest run = new RandomRunsTest(seed);
            if (!run.run()) {
                System.out.println("run " + seed + " differs:");
                int size = run.told.size();
                run.told.subList(Math.max(0, size - 40), size).forEach(System.out::println);
                System.exit(1);
            }
        }
        System.out.println("RandomRunsTest: " + runs + " runs of " + CALLS + " calls, all alike");
    }

    private boolean run() throws ReflectiveOperationException {
        List<Method> face = new ArrayList<>();
        for (Method m : RodRings.class.getDeclaredMethods()) {
            if (Modifier.isPublic(m.getModifiers()) && !m.getName().matches("pole|law|snags|tries|back|image|undo")) {
                face.add(m);
            }
        }
        face.sort((a, b) -> a.getName().compareTo(b.getName()));
        if (!text("pole", poleText()) || random.nextBoolean() && !text("law", lawText())) {
            return false;
        }
        for (int i = 0; i < CALLS; i++) {
            int dice = random.nextInt(100);
            boolean same;
            if (dice < 3) {
                same = text("pole", spoiled(poleText()));
            } else if (dice < 6) {
                same = text("law", spoiled(lawText()));
            } else if (dice < 10) {
                same = snagRows();
            } else if (dice < 13) {
                same = call("undo");
            } else if (dice == 13) {
                same = call(random.nextBoolean() ? "image" : "back");
            } else if (dice < mostActs) {
                String[] acts = {"pull", "pull", "pull", "free", "snag", "hook", "sew", "let", "chair", "hours"};
                same = any(method(acts[random.nextInt(acts.length)]));
            } else {
                same = any(face.get(random.nextInt(face.size())));
            }
            if (!same || i % 25 == 0 && !sameState()) {
                return false;
            }
        }
        return sameState();
    }

    private static Method method(String name) {
        for (Method m : RodRings.class.getDeclaredMethods()) {
            if (m.getName().equals(name)) {
                return m;
            }
        }
        throw new IllegalStateException(name);
    }

    private boolean sameState() throws ReflectiveOperationException {
        boolean same = true;
        for (int what = 0; what < 11; what++) {
            same &= call("count", what);
        }
        for (int ring = 0; ring < 8; ring++) {
            for (int what = 0; what < 14; what++) {
                same &= call("ring", ring, what);
            }
        }
        for (int ago = 0; ago < 60; ago += 7) {
            for (int what = 0; what < 6; what++) {
                same &= call("log", ago, what);
            }
        }
        return same && call("fault");
    }

    private boolean any(Method m) throws ReflectiveOperationException {
        Class<?>[] kinds = m.getParameterTypes();
        Object[] with = new Object[kinds.length];
        for (int i = 0; i < kinds.length; i++) {
            with[i] = kinds[i] == boolean.class ? (Object) random.nextBoolean() : (Object) number(m.getName(), i);
        }
        return call(m.getName(), with);
    }

    private int number(String name, int index) {
        int dice = random.nextInt(40);
        if (dice == 0) {
            return random.nextInt();
        }
        if (dice == 1) {
            return random.nextInt(100) - 5;
        }
        if (name.equals("seed")) {
            return random.nextInt(1000);
        }
        if (name.matches("fewest|first")) {
            int places = 0;
            for (int n = random.nextInt(3); n >= 0; n--) {
                places |= 1 << random.nextInt(32);
            }
            return places;
        }
        if (name.matches("sew|chair") && index == 0) {
            return random.nextInt(32);
        }
        if (name.equals("hours") || index == 0 && name.matches("faded|trial|span") || index == 1 && name.equals("ahead")) {
            return random.nextInt(random.nextBoolean() ? 6 : 82);
        }
        if (index == 1 && name.equals("ring")) {
            return random.nextInt(15);
        }
        if (name.equals("log")) {
            return random.nextInt(index == 0 && random.nextBoolean() ? 60 : 7);
        }
        if (name.equals("count")) {
            return random.nextInt(12);
        }
        if (index == 2) {
            return random.nextBoolean() ? 1 + random.nextInt(6) : random.nextInt(33);
        }
        return random.nextInt(random.nextInt(3) == 0 ? 10 : 6);
    }

    private boolean call(String name, Object... with) throws ReflectiveOperationException {
        StringBuilder line = new StringBuilder(name).append(java.util.Arrays.toString(with));
        String got = answer(real, name, with);
        String due = answer(model, name, with);
        told.add(line.append(" answered ").append(got).append(", due is ").append(due).toString());
        return got.equals(due);
    }

    private static String answer(Object on, String name, Object[] with) throws ReflectiveOperationException {
        Class<?>[] kinds = new Class<?>[with.length];
        for (int i = 0; i < with.length; i++) {
            kinds[i] = with[i] instanceof Boolean ? boolean.class : int.class;
        }
        try {
            return String.valueOf(on.getClass().getMethod(name, kinds).invoke(on, with));
        } catch (InvocationTargetException e) {
            // The machine's own exceptions are of other classes than those of the document, so they differ.
            return e.getCause().getClass().getSimpleName();
        }
    }

    private boolean text(String name, String whole) throws ReflectiveOperationException {
        String text = whole.length() > 400 ? whole.substring(0, 400) : whole;
        told.add("text: " + text);
        return feed(text.chars().toArray()) && call(name) && call("fault");
    }

    private boolean feed(int... bytes) throws ReflectiveOperationException {
        boolean same = call("end", 0);
        for (int from = 0; from < bytes.length; from += 20) {
            int[] five = new int[5];
            for (int i = 0; i < 20; i++) {
                five[i / 4] = five[i / 4] << 8 | (from + i < bytes.length ? bytes[from + i] : 0);
            }
            same &= call("feed", five[0], five[1], five[2], five[3], five[4]);
        }
        return same && call("end", bytes.length);
    }

    private boolean snagRows() throws ReflectiveOperationException {
        int rows = random.nextInt(20) == 0 ? 41 : random.nextInt(4);
        int[] bytes = new int[4 * rows + (random.nextInt(20) == 0 ? 1 : 0)];
        for (int i = 0; i + 3 < bytes.length; i += 4) {
            int count = Math.max(1, model.count(0));
            bytes[i] = random.nextInt(random.nextInt(20) == 0 ? 10 : count);
            bytes[i + 1] = random.nextInt(30) == 0 ? 2 : random.nextInt(2);
            bytes[i + 2] = random.nextInt(30) == 0 ? 32 * random.nextInt(2) : 1 + random.nextInt(31);
            bytes[i + 3] = random.nextInt(30) == 0 ? 32 : random.nextInt(6);
            if (bytes[i] < model.count(0) && bytes[i + 2] > 0 && random.nextInt(3) > 0) {
                int far = model.goes(bytes[i], bytes[i + 1] == 1);
                bytes[i + 3] = Math.min(far, bytes[i + 2]);
            }
        }
        if (!feed(bytes)) {
            return false;
        }
        return random.nextBoolean() ? call("tries") : call("snags", random.nextBoolean());
    }

    private String pick(String... of) {
        return of[random.nextInt(of.length)];
    }

    private String poleText() {
        StringBuilder b = new StringBuilder();
        int n = model.count(0);
        int last = n == 0 ? -1 : model.ring(n - 1, 0);
        int cloth = n == 0 ? 9 : model.ring(n - 1, 1);
        for (int lines = random.nextInt(16); lines > 0; lines--) {
            b.append(b.length() == 0 ? "" : pick(";", ";", " ; "));
            if (random.nextInt(3) > 0 && n < 9) {
                last += 1 + (random.nextInt(3) == 0 ? 0 : random.nextInt(cloth));
                cloth = 1 + random.nextInt(random.nextBoolean() ? 9 : 4);
                b.append("ring at ").append(last).append(" cloth ").append(cloth);
                b.append(pick("", "", " thick")).append(pick("", "", " wood"));
                b.append(random.nextBoolean() ? "" : " fade " + random.nextInt(100));
                b.append(random.nextBoolean() ? "" : " long" + random.nextInt(10));
                n++;
            } else {
                String word = pick("caught", "chair", "chair", "join", "wide", "hour", "day");
                b.append(word).append(pick(" ", "", "  "));
                b.append(random.nextInt(word.equals("chair") ? 32 : word.equals("day") ? 1000 : 8));
            }
        }
        return b.length() > 400 ? b.substring(0, 400) : b.toString();
    }

    private String lawText() {
        StringBuilder b = new StringBuilder();
        for (int lines = random.nextInt(random.nextInt(10) == 0 ? 14 : 6); lines > 0; lines--) {
            b.append(b.length() == 0 ? "" : pick(";", " ;  "));
            b.append(pick("fade ", "catch ", "fall ")).append(random.nextInt(pick("", "x").isEmpty() ? 101 : 6));
            if (random.nextInt(3) > 0) {
                b.append(" if ").append(condition(0));
            }
        }
        return b.length() > 400 ? b.substring(0, 400) : b.toString();
    }

    private String condition(int deep) {
        StringBuilder b = new StringBuilder(atom(deep));
        for (int more = random.nextInt(3); more > 0; more--) {
            b.append(pick(" and ", " or ")).append(atom(deep));
        }
        return b.toString();
    }

    private String atom(int deep) {
        int dice = random.nextInt(10);
        if (dice < 2) {
            return "not " + atom(deep + 1);
        }
        if (dice < 4 && deep < 8) {
            return "(" + condition(deep + 1) + pick(")", " )");
        }
        return dice < 7 ? pick("wood", "thick", "lit", "hooked") : sum() + pick("<", " > ", " <", ">") + sum();
    }

    private String sum() {
        StringBuilder b = new StringBuilder(part());
        for (int more = random.nextInt(4) - 2; more > 0; more--) {
            b.append(pick("+", " + ")).append(part());
        }
        return b.toString();
    }

    private String part() {
        return random.nextInt(3) == 0 ? String.valueOf(random.nextInt(40))
                : pick("ring", "place", "gap", "fade", "long", "hour", "day");
    }

    private String spoiled(String text) {
        if (text.isEmpty() || random.nextInt(3) > 0) {
            return text;
        }
        int at = random.nextInt(text.length());
        switch (random.nextInt(5)) {
            case 0:
                return text.substring(0, at);
            case 1:
                return text.substring(0, at) + text.substring(at + 1);
            case 2:
                return text.substring(0, at) + (char) random.nextInt(256) + text.substring(at + 1);
            case 3:
                return text.substring(0, at) + text.charAt(at) + text.substring(at);
            default:
                return text.replaceFirst(pick(" ", "[0-9]", "or", "and", "[(]"), pick("", " ", "7", "not ", "((("));
        }
    }
}
