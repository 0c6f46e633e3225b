import java.util.ArrayDeque;
import java.util.ArrayList;
import java.util.List;
import java.util.NoSuchElementException;
import java.util.TreeMap;

/** The document told a second time, as plainly as can be and in another way than RodRings, to compare with. */
public final class Model {
    /** One ring. */
    private static final class Ring {
        int place;
        int cloth;
        boolean thick;
        boolean wood;
        int fade;
        int length;
        boolean hooked = true;
        boolean snagged;

        Ring copy() {
            Ring r = new Ring();
            r.place = place;
            r.cloth = cloth;
            r.thick = thick;
            r.wood = wood;
            r.fade = fade;
            r.length = length;
            r.hooked = hooked;
            r.snagged = snagged;
            return r;
        }
    }

    /** All but the tape, the fault and the image. */
    private static final class State {
        List<Ring> rings = new ArrayList<>();
        boolean[] chairs = new boolean[32];
        int join = 16;
        int wide = 8;
        int hour;
        int day;
        int noise;
        int seed = 1;
        int texts;
        List<int[]> log = new ArrayList<>();
        List<String> lawLines;

        State copy() {
            State s = new State();
            for (Ring r : rings) {
                s.rings.add(r.copy());
            }
            s.chairs = chairs.clone();
            s.join = join;
            s.wide = wide;
            s.hour = hour;
            s.day = day;
            s.noise = noise;
            s.seed = seed;
            s.texts = texts;
            s.log = new ArrayList<>(log);
            s.lawLines = lawLines;
            return s;
        }
    }

    /** Thrown at the first wrong byte. */
    private static final class Wrong extends RuntimeException {
        private static final long serialVersionUID = 1;
        final int at;

        Wrong(int at) {
            super("wrong at " + at);
            this.at = at;
        }
    }

    private final StringBuilder tape = new StringBuilder();
    private State s = new State();
    private State kept;
    private final ArrayDeque<State> before = new ArrayDeque<>();
    private int faultAt = -1;

    // ---- texts: read sign by sign, without parting them into things first

    private String text;
    private int at;

    private void blanks() {
        while (at < text.length() && text.charAt(at) == ' ') {
            at++;
        }
    }

    private String peek() {
        blanks();
        int to = at;
        while (to < text.length() && text.charAt(to) >= 'a' && text.charAt(to) <= 'z') {
            to++;
        }
        if (to == at) {
            while (to < text.length() && Character.digit(text.charAt(to), 10) >= 0 && text.charAt(to) < 128) {
                to++;
            }
        }
        if (to == at && at < text.length()) {
            to = at + 1;
        }
        return text.substring(at, to);
    }

    private boolean maybe(String what) {
        if (peek().equals(what)) {
            at += what.length();
            return true;
        }
        return false;
    }

    private void must(String what) {
        if (!maybe(what)) {
            throw new Wrong(at);
        }
    }

    private int number(int least, int most) {
        String t = peek();
        if (!t.matches("[0-9]{1,3}") || Integer.parseInt(t) < least || Integer.parseInt(t) > most) {
            throw new Wrong(at);
        }
        at += t.length();
        return Integer.parseInt(t);
    }

    private void begin() {
        text = tape.toString();
        at = 0;
        tape.setLength(0);
    }

    private void poleText(State d) {
        blanks();
        if (at == text.length()) {
            return;
        }
        int lines = 0;
        do {
            poleLine(d, ++lines);
        } while (maybe(";"));
        blanks();
        if (at < text.length()) {
            throw new Wrong(at);
        }
    }

    private void poleLine(State d, int lines) {
        String word = peek();
        if (lines > 14 || word.equals("ring") && d.rings.size() == 8
                || !List.of("ring", "caught", "chair", "join", "wide", "hour", "day").contains(word)) {
            throw new Wrong(at);
        }
        at += word.length();
        if (word.equals("ring")) {
            Ring r = new Ring();
            must("at");
            Ring last = d.rings.isEmpty() ? null : d.rings.get(d.rings.size() - 1);
            blanks();
            int where = at;
            r.place = number(0, 31);
            if (last != null && (r.place <= last.place || r.place - last.place > last.cloth)) {
                throw new Wrong(where);
            }
            must("cloth");
            r.cloth = number(1, 9);
            r.thick = maybe("thick");
            r.wood = maybe("wood");
            r.fade = maybe("fade") ? number(0, 99) : 0;
            r.length = maybe("long") ? number(0, 9) : 0;
            d.rings.add(r);
        } else if (word.equals("caught")) {
            d.rings.get(number(0, d.rings.size() - 2)).snagged = true;
        } else if (word.equals("chair")) {
            d.chairs[number(0, 31)] = true;
        } else if (word.equals("join")) {
            d.join = number(1, 31);
        } else if (word.equals("wide")) {
            d.wide = number(0, 31);
        } else if (word.equals("hour")) {
            d.hour = number(0, 7);
        } else {
            d.day = number(0, 999);
        }
    }

    private List<String> lawText() {
        List<String> lines = new ArrayList<>();
        blanks();
        if (at == text.length()) {
            return lines;
        }
        do {
            String word = peek();
            if (lines.size() == 12 || !List.of("fade", "catch", "fall").contains(word)) {
                throw new Wrong(at);
            }
            int from = at;
            at += word.length();
            number(0, 100);
            if (maybe("if")) {
                condition(null, 0, 0);
            }
            lines.add(text.substring(from, at));
        } while (maybe(";"));
        blanks();
        if (at < text.length()) {
            throw new Wrong(at);
        }
        return lines;
    }

    /** Reads a condition, and with a state tells whether it holds for a ring. */
    private boolean condition(State d, int ring, int deep) {
        boolean some = all(d, ring, deep);
        while (maybe("or")) {
            boolean next = all(d, ring, deep);
            some = some || next;
        }
        return some;
    }

    private boolean all(State d, int ring, int deep) {
        boolean every = atom(d, ring, deep);
        while (maybe("and")) {
            boolean next = atom(d, ring, deep);
            every = every && next;
        }
        return every;
    }

    private boolean atom(State d, int ring, int deep) {
        String t = peek();
        if ((t.equals("not") || t.equals("(")) && deep == 6) {
            throw new Wrong(at);
        }
        if (maybe("not")) {
            return !atom(d, ring, deep + 1);
        }
        if (maybe("(")) {
            boolean is = condition(d, ring, deep + 1);
            must(")");
            return is;
        }
        if (List.of("wood", "thick", "lit", "hooked").contains(t)) {
            at += t.length();
            if (d == null) {
                return false;
            }
            Ring r = d.rings.get(ring);
            return t.equals("wood") ? r.wood : t.equals("thick") ? r.thick
                    : t.equals("hooked") ? r.hooked : isLit(d, r.place, d.hour);
        }
        int left = sum(d, ring);
        boolean less = peek().equals("<");
        if (!maybe("<")) {
            must(">");
        }
        int right = sum(d, ring);
        return less ? left < right : left > right;
    }

    private int sum(State d, int ring) {
        int total = part(d, ring);
        while (maybe("+")) {
            total += part(d, ring);
        }
        return total;
    }

    private int part(State d, int ring) {
        String t = peek();
        if (!List.of("ring", "place", "gap", "fade", "long", "hour", "day").contains(t)) {
            return number(0, 999);
        }
        at += t.length();
        if (d == null) {
            return 0;
        }
        Ring r = d.rings.get(ring);
        switch (t) {
            case "ring":
                return ring;
            case "place":
                return r.place;
            case "gap":
                return ring == d.rings.size() - 1 ? 99 : d.rings.get(ring + 1).place - r.place;
            case "fade":
                return r.fade;
            case "long":
                return r.length;
            case "hour":
                return d.hour;
            default:
                return d.day;
        }
    }

    private static boolean isLit(State d, int place, int hour) {
        for (int p = 4 * hour; p <= Math.min(31, 4 * hour + d.wide); p++) {
            if (p == place) {
                return true;
            }
        }
        return false;
    }

    private int by(State d, String kind, int ring) {
        if (d.lawLines == null) {
            return kind.equals("catch") ? 10 : kind.equals("fall") ? 0
                    : isLit(d, d.rings.get(ring).place, d.hour) ? 1 : 0;
        }
        int sum = 0;
        for (String line : d.lawLines) {
            text = line;
            at = 0;
            if (maybe(kind)) {
                int n = number(0, 100);
                if (!maybe("if") || condition(d, ring, 0)) {
                    sum += n;
                }
            }
        }
        return sum;
    }

    // ---- how it goes

    private static boolean[] goers(State d, int ring, boolean right) {
        int n = d.rings.size();
        boolean[] go = new boolean[n];
        go[ring] = true;
        boolean changed = true;
        while (changed) {
            changed = false;
            for (int i = 0; i < n; i++) {
                for (int j = Math.max(0, i - 1); go[i] && j <= Math.min(n - 1, i + 1); j++) {
                    if (j == i || go[j]) {
                        continue;
                    }
                    Ring left = d.rings.get(Math.min(i, j));
                    int apart = Math.abs(d.rings.get(i).place - d.rings.get(j).place);
                    boolean ahead = right ? j > i : j < i;
                    if (left.snagged || ahead && apart == 1 || !ahead && apart + 1 > left.cloth) {
                        go[j] = true;
                        changed = true;
                    }
                }
            }
        }
        for (int i = 0; i < n; i++) {
            int to = d.rings.get(i).place + (right ? 1 : -1);
            boolean over = Math.max(to, d.rings.get(i).place) == d.join;
            if (go[i] && (to < 0 || to > 31 || d.rings.get(i).thick && over)) {
                return new boolean[n];
            }
        }
        return go;
    }

    private static int doPull(State d, int ring, boolean right, int n) {
        for (int far = 0; far < n; far++) {
            boolean[] go = goers(d, ring, right);
            if (!go[ring]) {
                return far;
            }
            for (int i = 0; i < go.length; i++) {
                if (go[i]) {
                    d.rings.get(i).place += right ? 1 : -1;
                    if (!d.rings.get(i).wood && d.noise < 9999) {
                        d.noise++;
                    }
                }
            }
        }
        return n;
    }

    private static int far(State d, int ring, boolean right, int n) {
        return doPull(d.copy(), ring, right, n);
    }

    private static boolean[] shaded(State d) {
        boolean[] dark = new boolean[32];
        for (int i = 0; i + 1 < d.rings.size(); i++) {
            Ring a = d.rings.get(i);
            Ring b = d.rings.get(i + 1);
            for (int p = a.place; a.hooked && b.hooked && p <= b.place; p++) {
                dark[p] = true;
            }
        }
        return dark;
    }

    private static int bits(boolean[] set) {
        int sum = 0;
        for (int i = 0; i < set.length; i++) {
            sum += set[i] ? 1 << i : 0;
        }
        return sum;
    }

    private static int shadedChairs(State d) {
        return Integer.bitCount(bits(d.chairs) & bits(shaded(d)));
    }

    private static int draw(State d) {
        d.seed = (int) (1103515245L * d.seed + 12345L);
        return (d.seed & 0x7fffffff) >> 16;
    }

    private static void note(State d, int ring, int kind, int far) {
        d.log.add(0, new int[] {d.day, d.hour, ring, kind, far, d.rings.get(ring).place});
        while (d.log.size() > 60) {
            d.log.remove(60);
        }
    }

    private int anHour(State d, boolean draws) {
        int events = 0;
        int n = d.rings.size();
        for (int i = 0; i < n; i++) {
            d.rings.get(i).fade = Math.min(99, d.rings.get(i).fade + by(d, "fade", i));
        }
        for (int i = 0; draws && i + 1 < n; i++) {
            Ring r = d.rings.get(i);
            if (d.rings.get(i + 1).place == r.place + 1 && !r.snagged && draw(d) % 100 < by(d, "catch", i)) {
                r.snagged = true;
                events++;
                note(d, i, 1, 0);
            }
        }
        for (int i = 0; draws && i < n; i++) {
            Ring r = d.rings.get(i);
            if (r.hooked && draw(d) % 100 < by(d, "fall", i)) {
                r.hooked = false;
                events++;
                note(d, i, 2, 0);
            }
        }
        d.hour = (d.hour + 1) % 8;
        if (d.hour == 0 && d.day < 9999) {
            d.day++;
        }
        return events;
    }

    private State later(int n, boolean draws, int seed) {
        State d = s.copy();
        d.seed = seed;
        for (int i = 0; i < n; i++) {
            anHour(d, draws);
        }
        return d;
    }

    private static int snagBits(State d) {
        int sum = 0;
        for (int i = 0; i < d.rings.size(); i++) {
            sum += d.rings.get(i).snagged ? 1 << i : 0;
        }
        return sum;
    }

    private static int looseBits(State d) {
        int sum = 0;
        for (int i = 0; i < d.rings.size(); i++) {
            sum += d.rings.get(i).hooked ? 0 : 1 << i;
        }
        return sum;
    }

    private static State snaggedBy(State d, int set) {
        State e = d.copy();
        for (int i = 0; i < e.rings.size(); i++) {
            e.rings.get(i).snagged = (set >> i & 1) == 1;
        }
        return e;
    }

    // ---- what is wrong with arguments

    private void isRing(int ring) {
        if (ring < 0 || ring >= s.rings.size()) {
            throw new IndexOutOfBoundsException();
        }
    }

    private static void isPlace(int place) {
        if (place < 0 || place > 31) {
            throw new IndexOutOfBoundsException();
        }
    }

    private static void isNumber(int n, int least, int most) {
        if (n < least || n > most) {
            throw new IllegalArgumentException();
        }
    }

    private void act() {
        before.push(s.copy());
        if (before.size() > 12) {
            before.removeLast();
        }
    }

    private int gapOf(int ring) {
        return ring == s.rings.size() - 1 ? -1 : s.rings.get(ring + 1).place - s.rings.get(ring).place;
    }

    // ---- the face

    public int feed(int a, int b, int c, int d, int e) {
        if (tape.length() > 380) {
            return -1;
        }
        for (int n : new int[] {a, b, c, d, e}) {
            tape.append((char) (n >> 24 & 255)).append((char) (n >> 16 & 255));
            tape.append((char) (n >> 8 & 255)).append((char) (n & 255));
        }
        return tape.length();
    }

    public boolean end(int n) {
        if (n < 0 || n > tape.length()) {
            return false;
        }
        tape.setLength(n);
        return true;
    }

    public int pole() {
        begin();
        State d = s.copy();
        try {
            poleText(d);
            faultAt = -1;
        } catch (Wrong w) {
            faultAt = w.at;
            throw new IllegalArgumentException();
        }
        if (s.texts == 12) {
            throw new UnsupportedOperationException();
        }
        s = d;
        s.texts++;
        before.clear();
        return s.texts;
    }

    public int law() {
        begin();
        List<String> lines;
        try {
            lines = lawText();
            faultAt = -1;
        } catch (Wrong w) {
            faultAt = w.at;
            throw new IllegalArgumentException();
        }
        s.lawLines = lines;
        before.clear();
        return lines.size();
    }

    public int fault() {
        return faultAt;
    }

    public int ring(int ring, int what) {
        isRing(ring);
        Ring r = s.rings.get(ring);
        int all = s.rings.stream().mapToInt(q -> q.fade).sum();
        int[] plain = {r.place, r.cloth, r.thick ? 1 : 0, r.wood ? 1 : 0, r.fade, r.length, r.hooked ? 1 : 0,
            r.snagged ? 1 : 0, gapOf(ring), by(s, "fade", ring), by(s, "catch", ring), by(s, "fall", ring),
            hangs(ring), all == 0 ? 0 : r.fade * 100 / all};
        if (what < 0 || what >= plain.length) {
            throw new NoSuchElementException();
        }
        return plain[what];
    }

    private int hangs(int ring) {
        if (s.rings.get(ring).hooked) {
            return ring;
        }
        for (int apart = 1; apart < 32; apart++) {
            for (int i = 0; i < s.rings.size(); i++) {
                if (s.rings.get(i).hooked && Math.abs(s.rings.get(i).place - s.rings.get(ring).place) == apart) {
                    return i;
                }
            }
        }
        return -1;
    }

    public int pull(int ring, boolean right, int n) {
        isRing(ring);
        isNumber(n, 1, 31);
        act();
        int far = doPull(s, ring, right, n);
        note(s, ring, 0, far);
        return far;
    }

    public int free(int ring) {
        isRing(ring);
        if (!s.rings.get(ring).snagged) {
            throw new IllegalStateException();
        }
        act();
        s.rings.get(ring).snagged = false;
        return gapOf(ring);
    }

    public int snag(int ring) {
        isRing(ring);
        if (ring == s.rings.size() - 1 || s.rings.get(ring).snagged) {
            throw new IllegalStateException();
        }
        act();
        s.rings.get(ring).snagged = true;
        return gapOf(ring);
    }

    public boolean hook(int ring, boolean is) {
        isRing(ring);
        act();
        boolean was = s.rings.get(ring).hooked;
        s.rings.get(ring).hooked = is;
        return was != is;
    }

    public int sew(int place, int cloth) {
        isPlace(place);
        isNumber(cloth, 1, 9);
        int n = s.rings.size();
        if (n == 8) {
            throw new IllegalStateException();
        }
        if (n > 0) {
            Ring last = s.rings.get(n - 1);
            if (place <= last.place || place - last.place > last.cloth) {
                throw new IllegalStateException();
            }
        }
        act();
        Ring r = new Ring();
        r.place = place;
        r.cloth = cloth;
        s.rings.add(r);
        return n;
    }

    public int let(int ring, int n) {
        isRing(ring);
        isNumber(n, 0, 9);
        act();
        int was = s.rings.get(ring).length;
        s.rings.get(ring).length = n;
        return was;
    }

    public boolean chair(int place, boolean is) {
        isPlace(place);
        act();
        boolean was = s.chairs[place];
        s.chairs[place] = is;
        return was != is;
    }

    public int hours(int n) {
        isNumber(n, 1, 80);
        act();
        int events = 0;
        for (int i = 0; i < n; i++) {
            events += anHour(s, true);
        }
        return events;
    }

    public int shade() {
        return bits(shaded(s));
    }

    public int dark() {
        return shadedChairs(s);
    }

    public int bare() {
        return bits(s.chairs) & ~bits(shaded(s));
    }

    public int goes(int ring, boolean right) {
        isRing(ring);
        return far(s, ring, right, 31);
    }

    public int with(int ring, boolean right) {
        isRing(ring);
        return bits(goers(s, ring, right));
    }

    public int would(int ring, boolean right, int n, boolean noise) {
        isRing(ring);
        isNumber(n, 1, 31);
        State d = s.copy();
        doPull(d, ring, right, n);
        return noise ? d.noise - s.noise : shadedChairs(d);
    }

    public int best() {
        int best = -1;
        int most = shadedChairs(s);
        for (int code = 0; code < 64 * s.rings.size(); code++) {
            int n = code % 32;
            State d = s.copy();
            if (n > 0 && doPull(d, code / 64, code / 32 % 2 == 1, n) == n && shadedChairs(d) > most) {
                most = shadedChairs(d);
                best = code;
            }
        }
        return best;
    }

    private int[] fewestAndFirst(int places) {
        if ((places & ~bits(shaded(s))) == 0) {
            return new int[] {0, -1};
        }
        for (int n = 1; n <= 31; n++) {
            for (int code = 0; code < 2 * s.rings.size(); code++) {
                State d = s.copy();
                if (doPull(d, code / 2, code % 2 == 1, n) == n && (places & ~bits(shaded(d))) == 0) {
                    return new int[] {n, code};
                }
            }
        }
        return new int[] {-1, -1};
    }

    public int fewest(int places) {
        return fewestAndFirst(places)[0];
    }

    public int first(int places) {
        return fewestAndFirst(places)[1];
    }

    private List<Integer> fits() {
        String t = tape.toString();
        tape.setLength(0);
        if (t.length() % 4 != 0 || t.length() > 160) {
            throw new IllegalArgumentException();
        }
        for (int i = 0; i < t.length(); i += 4) {
            if (t.charAt(i) >= s.rings.size() || t.charAt(i + 1) > 1 || t.charAt(i + 2) < 1 || t.charAt(i + 2) > 31
                    || t.charAt(i + 3) > 31) {
                throw new IllegalArgumentException();
            }
        }
        List<Integer> sets = new ArrayList<>();
        for (int set = 0; set < 256; set++) {
            boolean fits = set >> Math.max(0, s.rings.size() - 1) == 0;
            State d = snaggedBy(s, set);
            for (int i = 0; fits && i < t.length(); i += 4) {
                fits = far(d, t.charAt(i), t.charAt(i + 1) == 1, t.charAt(i + 2)) == t.charAt(i + 3);
            }
            if (fits) {
                sets.add(set);
            }
        }
        return sets;
    }

    public int snags(boolean sure) {
        List<Integer> sets = fits();
        if (!sure) {
            return sets.size();
        }
        return sets.isEmpty() ? 0 : sets.stream().reduce((a, b) -> a & b).get();
    }

    public int tries() {
        List<Integer> sets = fits();
        int best = -1;
        int least = 1000;
        for (int code = 0; sets.size() > 1 && code < 2 * s.rings.size(); code++) {
            TreeMap<Integer, Integer> parts = new TreeMap<>();
            for (int set : sets) {
                parts.merge(far(snaggedBy(s, set), code / 2, code % 2 == 1, 31), 1, Integer::sum);
            }
            int greatest = parts.values().stream().mapToInt(v -> v).max().getAsInt();
            if (greatest < least) {
                least = greatest;
                best = code;
            }
        }
        return best;
    }

    public int loosen(int ring, boolean right, int n) {
        isRing(ring);
        isNumber(n, 1, 31);
        int now = snagBits(s);
        for (int size = 0; size < 8; size++) {
            for (int set = 0; set < 128; set++) {
                if (Integer.bitCount(set) == size && (set & now) == set
                        && far(snaggedBy(s, now - set), ring, right, n) == n) {
                    return set;
                }
            }
        }
        return -1;
    }

    public int order() {
        int n = s.rings.size();
        int[] longest = new int[n];
        int most = 0;
        for (int i = 0; i < n; i++) {
            longest[i] = 1;
            for (int j = 0; j < i; j++) {
                if (s.rings.get(j).fade <= s.rings.get(i).fade) {
                    longest[i] = Math.max(longest[i], longest[j] + 1);
                }
            }
            most = Math.max(most, longest[i]);
        }
        return n - most;
    }

    public int tight(int n) {
        isNumber(n, 2, 8);
        for (int wide = 0; wide < 32; wide++) {
            for (int i = 0; i + n - 1 < s.rings.size(); i++) {
                if (s.rings.get(i + n - 1).place - s.rings.get(i).place == wide) {
                    return i;
                }
            }
        }
        return -1;
    }

    public int slack() {
        int sum = 0;
        for (int i = 0; i + 1 < s.rings.size(); i++) {
            sum += s.rings.get(i).cloth - gapOf(i);
        }
        return sum;
    }

    public int taut() {
        int set = 0;
        for (int i = 0; i + 1 < s.rings.size(); i++) {
            set += gapOf(i) == s.rings.get(i).cloth ? 1 << i : 0;
        }
        return set;
    }

    public int lit(int hour) {
        if (hour < 0 || hour > 7) {
            throw new IndexOutOfBoundsException();
        }
        int set = 0;
        for (int i = 0; i < s.rings.size(); i++) {
            set += isLit(s, s.rings.get(i).place, hour) ? 1 << i : 0;
        }
        return set;
    }

    public int sunny() {
        for (int hours = 8; hours >= 0; hours--) {
            for (int i = 0; i < s.rings.size(); i++) {
                int n = 0;
                for (int h = 0; h < 8; h++) {
                    n += lit(h) >> i & 1;
                }
                if (n == hours) {
                    return i;
                }
            }
        }
        return -1;
    }

    public int faded(int n) {
        isNumber(n, 0, 80);
        return later(n, false, 1).rings.stream().mapToInt(r -> r.fade).sum();
    }

    public int pale() {
        for (int n = 0; n <= 80; n++) {
            if (later(n, false, 1).rings.stream().anyMatch(r -> r.fade == 99)) {
                return n;
            }
        }
        return -1;
    }

    public int lets(int ring, int x) {
        isRing(ring);
        isNumber(x, 0, 9);
        int[] anew = new int[s.rings.size()];
        int sum = s.rings.stream().mapToInt(r -> r.length).sum();
        for (int i = 0; i < sum; i++) {
            anew[i % anew.length]++;
        }
        for (int n : anew) {
            if (n > x) {
                return -1;
            }
        }
        return anew[ring];
    }

    public int envy() {
        int pairs = 0;
        for (int i = 1; i < s.rings.size(); i++) {
            int a = s.rings.get(i - 1).length;
            int b = s.rings.get(i).length;
            pairs += a - b >= 2 || b - a >= 2 ? 1 : 0;
        }
        return pairs;
    }

    public int rests(int ring) {
        isRing(ring);
        if (gapOf(ring) == -1) {
            return -1;
        }
        int[][] has = {{2, s.rings.get(ring).snagged ? -2 : 1}, {gapOf(ring) - 1, 2}};
        int set = 0;
        for (int left = 0; left < 2; left++) {
            for (int right = 0; right < 2; right++) {
                if (has[1 - left][right] <= has[left][right] && has[left][1 - right] <= has[left][right]) {
                    set += 1 << 2 * left + right;
                }
            }
        }
        return set;
    }

    public int bunch() {
        int most = 0;
        for (int i = 0; i < s.rings.size(); i++) {
            int j = i;
            while (j + 1 < s.rings.size() && gapOf(j) == 1) {
                j++;
            }
            most = Math.max(most, j - i + 1);
        }
        return most;
    }

    public int wooden() {
        int set = 0;
        for (int i = 0; i < s.rings.size(); i++) {
            set += s.rings.get(i).wood ? 1 << i : 0;
        }
        return set;
    }

    public int caught() {
        return snagBits(s);
    }

    public int loose() {
        return looseBits(s);
    }

    public int beyond() {
        int set = 0;
        for (int i = 0; i < s.rings.size(); i++) {
            set += s.rings.get(i).thick && s.rings.get(i).place > s.join - 1 ? 1 << i : 0;
        }
        return set;
    }

    public int odds(int ring, int n) {
        isRing(ring);
        isNumber(n, 0, 4);
        int odds = 10000;
        for (int i = 0; i < n; i++) {
            odds = (int) Math.floor(odds * (100 - Math.min(100, by(s, "fall", ring))) / 100.0);
        }
        return odds;
    }

    public int twins() {
        int pairs = 0;
        for (Ring a : s.rings) {
            for (Ring b : s.rings) {
                pairs += a != b && a.cloth == b.cloth && a.length == b.length && a.fade == b.fade ? 1 : 0;
            }
        }
        return pairs / 2;
    }

    public int ahead(int ring, int n) {
        isRing(ring);
        isNumber(n, 0, 80);
        return later(n, false, 1).rings.get(ring).fade;
    }

    public int trial(int n, boolean loose) {
        isNumber(n, 0, 80);
        State d = later(n, true, s.seed);
        return loose ? looseBits(d) : snagBits(d);
    }

    public int span(int n, boolean most) {
        isNumber(n, 0, 80);
        int least = 100;
        int greatest = -1;
        for (int seed = 1; seed <= 6; seed++) {
            State d = later(n, true, seed);
            int both = Integer.bitCount(snagBits(d)) + Integer.bitCount(looseBits(d));
            least = Math.min(least, both);
            greatest = Math.max(greatest, both);
        }
        return most ? greatest : least;
    }

    public int led(int ring, boolean place) {
        isRing(ring);
        if (!place) {
            return (int) s.log.stream().filter(r -> r[2] == ring).count();
        }
        return s.log.stream().filter(r -> r[2] == ring).mapToInt(r -> r[5]).findFirst().orElse(-1);
    }

    public int log(int ago, int what) {
        if (what < 0 || what > 5) {
            throw new NoSuchElementException();
        }
        return ago < 0 || ago >= s.log.size() ? -1 : s.log.get(ago)[what];
    }

    public int seed(int n) {
        int was = s.seed;
        s.seed = n;
        return was;
    }

    public boolean undo() {
        if (before.isEmpty()) {
            return false;
        }
        s = before.pop();
        return true;
    }

    public void image() {
        kept = s.copy();
    }

    public boolean back() {
        if (kept == null) {
            return false;
        }
        s = kept.copy();
        before.clear();
        return true;
    }

    public int count(int what) {
        int[] all = {s.rings.size(), s.texts, s.lawLines == null ? -1 : s.lawLines.size(), s.hour, s.day, s.join,
            s.wide, bits(s.chairs), s.noise, s.log.size(), before.size()};
        return what < 0 || what >= all.length ? -1 : all[what];
    }
}
