import java.util.NoSuchElementException;

/** A pole with rings in a row, the cloth between them, chairs below and a sun that goes by hours. */
public final class RodRings {
    public static final int NONE = -1;

    private static final int LAST_PLACE = 31;
    private static final int PLACES_AN_HOUR = 4;
    private static final int RINGS = 8;
    private static final int MOST_CLOTH = 9;
    private static final int MOST_LONG = 9;
    private static final int MOST_FADE = 99;
    private static final int MOST_STEPS = 31;
    private static final int HOURS_A_DAY = 8;
    private static final int MOST_HOURS = 80;
    private static final int MOST_ODDS_HOURS = 4;
    private static final int TRIED_SEEDS = 6;
    private static final int MOST_COUNTED = 9999;
    private static final int TEXTS = 12;
    private static final int TAPE_BYTES = 400;
    private static final int FADES = 0;
    private static final int CATCHES = 1;
    private static final int FALLS = 2;
    private static final int PULLED = 0;
    private static final int GOT_CAUGHT = 1;
    private static final int FELL = 2;

    private final Tape tape;
    private final Rod rod;
    private final Law law;
    private final Acts acts;
    private final Rod draft;
    private final Law draftLaw;
    private final RodReader rodReader;
    private final LawReader lawReader;
    private final Clock clock;
    private final Pulls pulls;
    private Rod keptRod;
    private Law keptLaw;
    private int wrongByte;

    public RodRings() {
        tape = new Tape();
        rod = new Rod();
        law = new Law();
        acts = new Acts();
        draft = new Rod();
        draftLaw = new Law();
        rodReader = new RodReader(tape, draft);
        lawReader = new LawReader(tape, draftLaw);
        clock = new Clock(law, draft);
        pulls = new Pulls(tape, draft);
        wrongByte = NONE;
    }

    public int feed(int a, int b, int c, int d, int e) {
        if (!tape.hasRoom()) {
            return NONE;
        }
        tape.put(a);
        tape.put(b);
        tape.put(c);
        tape.put(d);
        tape.put(e);
        return tape.length;
    }

    public boolean end(int n) {
        if (n < 0 || n > tape.length) {
            return false;
        }
        tape.length = n;
        return true;
    }

    public int pole() throws IllegalArgumentException, UnsupportedOperationException {
        draft.copyFrom(rod);
        wrongByte = rodReader.read();
        tape.length = 0;
        if (wrongByte != NONE) {
            throw new IllegalArgumentException("the text is wrong");
        }
        if (rod.texts >= TEXTS) {
            throw new UnsupportedOperationException("there are as many texts as can be");
        }
        draft.texts++;
        rod.copyFrom(draft);
        acts.forget();
        return rod.texts;
    }

    public int law() throws IllegalArgumentException {
        draftLaw.begin();
        wrongByte = lawReader.read();
        tape.length = 0;
        if (wrongByte != NONE) {
            throw new IllegalArgumentException("the text is wrong");
        }
        law.copyFrom(draftLaw);
        acts.forget();
        return law.lines;
    }

    public int fault() {
        return wrongByte;
    }

    public int ring(int ring, int what) throws IndexOutOfBoundsException, NoSuchElementException {
        requireRing(ring);
        switch (what) {
            case 0:
                return rod.place[ring];
            case 1:
                return rod.cloth[ring];
            case 2:
                return bit(rod.thick, ring);
            case 3:
                return bit(rod.wood, ring);
            case 4:
                return rod.fade[ring];
            case 5:
                return rod.length[ring];
            case 6:
                return bit(rod.hooked, ring);
            case 7:
                return bit(rod.snagged, ring);
            case 8:
                return rod.gap(ring, NONE);
            case 9:
                return law.amount(FADES, rod, ring);
            case 10:
                return law.amount(CATCHES, rod, ring);
            case 11:
                return law.amount(FALLS, rod, ring);
            case 12:
                return Looks.hangsBy(rod, ring);
            case 13:
                return Looks.share(rod, ring);
            default:
                throw new NoSuchElementException("a ring has nothing of that number");
        }
    }

    public int pull(int ring, boolean right, int n) throws IndexOutOfBoundsException, IllegalArgumentException {
        requireRing(ring);
        requireNumber(n, 1, MOST_STEPS);
        acts.remember(rod);
        int far = rod.move(ring, right, n);
        rod.log.add(rod, ring, PULLED, far);
        return far;
    }

    public int free(int ring) throws IndexOutOfBoundsException, IllegalStateException {
        requireRing(ring);
        if (bit(rod.snagged, ring) == 0) {
            throw new IllegalStateException("the ring is not caught");
        }
        acts.remember(rod);
        rod.snagged = withBit(rod.snagged, ring, false);
        return rod.gap(ring, NONE);
    }

    public int snag(int ring) throws IndexOutOfBoundsException, IllegalStateException {
        requireRing(ring);
        if (ring == rod.count - 1 || bit(rod.snagged, ring) == 1) {
            throw new IllegalStateException("the ring is the last one, or caught");
        }
        acts.remember(rod);
        rod.snagged = withBit(rod.snagged, ring, true);
        return rod.gap(ring, NONE);
    }

    public boolean hook(int ring, boolean is) throws IndexOutOfBoundsException {
        requireRing(ring);
        acts.remember(rod);
        int before = rod.hooked;
        rod.hooked = withBit(before, ring, is);
        return rod.hooked != before;
    }

    public int sew(int place, int cloth)
            throws IndexOutOfBoundsException, IllegalArgumentException, IllegalStateException {
        requirePlace(place);
        requireNumber(cloth, 1, MOST_CLOTH);
        if (rod.count >= RINGS || place < rod.nearestNew() || place > rod.farthestNew()) {
            throw new IllegalStateException("no ring can be sewn on there");
        }
        acts.remember(rod);
        rod.add(place, cloth);
        return rod.count - 1;
    }

    public int let(int ring, int n) throws IndexOutOfBoundsException, IllegalArgumentException {
        requireRing(ring);
        requireNumber(n, 0, MOST_LONG);
        acts.remember(rod);
        int before = rod.length[ring];
        rod.length[ring] = n;
        return before;
    }

    public boolean chair(int place, boolean is) throws IndexOutOfBoundsException {
        requirePlace(place);
        acts.remember(rod);
        int before = rod.chairs;
        rod.chairs = withBit(before, place, is);
        return rod.chairs != before;
    }

    public int hours(int n) throws IllegalArgumentException {
        requireNumber(n, 1, MOST_HOURS);
        acts.remember(rod);
        return clock.run(rod, n);
    }

    public int shade() {
        return rod.shadow();
    }

    public int dark() {
        return rod.shadedChairs();
    }

    public int bare() {
        return rod.chairs & ~rod.shadow();
    }

    public int goes(int ring, boolean right) throws IndexOutOfBoundsException {
        requireRing(ring);
        draft.copyFrom(rod);
        return draft.move(ring, right, MOST_STEPS);
    }

    public int with(int ring, boolean right) throws IndexOutOfBoundsException {
        requireRing(ring);
        return rod.goers(ring, right);
    }

    public int would(int ring, boolean right, int n, boolean noise)
            throws IndexOutOfBoundsException, IllegalArgumentException {
        requireRing(ring);
        requireNumber(n, 1, MOST_STEPS);
        draft.copyFrom(rod);
        draft.move(ring, right, n);
        return noise ? draft.noise - rod.noise : draft.shadedChairs();
    }

    public int best() {
        return pulls.shadiest(rod);
    }

    public int fewest(int places) {
        pulls.seekShade(rod, places);
        return pulls.steps;
    }

    public int first(int places) {
        pulls.seekShade(rod, places);
        return pulls.mover;
    }

    public int snags(boolean sure) throws IllegalArgumentException {
        readSnags();
        return sure ? pulls.inAllFitting() : pulls.fits;
    }

    public int tries() throws IllegalArgumentException {
        readSnags();
        return pulls.partingPull(rod);
    }

    public int loosen(int ring, boolean right, int n) throws IndexOutOfBoundsException, IllegalArgumentException {
        requireRing(ring);
        requireNumber(n, 1, MOST_STEPS);
        return pulls.fewestFreed(rod, ring, right, n);
    }

    public int order() {
        return Looks.outOfOrder(rod);
    }

    public int tight(int n) throws IllegalArgumentException {
        requireNumber(n, 2, RINGS);
        return Looks.tightest(rod, n);
    }

    public int slack() {
        return Looks.spareCloth(rod);
    }

    public int taut() {
        return Looks.tautRings(rod);
    }

    public int lit(int hour) throws IndexOutOfBoundsException {
        if (hour < 0 || hour >= HOURS_A_DAY) {
            throw new IndexOutOfBoundsException("there is no such hour");
        }
        return Looks.litRings(rod, hour);
    }

    public int sunny() {
        return Looks.sunniest(rod);
    }

    public int faded(int n) throws IllegalArgumentException {
        requireNumber(n, 0, MOST_HOURS);
        clock.goAhead(rod, n);
        return draft.allFades();
    }

    public int pale() {
        return clock.firstPale(rod);
    }

    public int lets(int ring, int x) throws IndexOutOfBoundsException, IllegalArgumentException {
        requireRing(ring);
        requireNumber(x, 0, MOST_LONG);
        return Looks.evenLength(rod, ring, x);
    }

    public int envy() {
        return Looks.enviousPairs(rod);
    }

    public int rests(int ring) throws IndexOutOfBoundsException {
        requireRing(ring);
        return Looks.restingChoices(rod, ring);
    }

    public int bunch() {
        return Looks.largestBunch(rod);
    }

    public int wooden() {
        return rod.wood;
    }

    public int caught() {
        return rod.snagged;
    }

    public int loose() {
        return rod.unhooked();
    }

    public int beyond() {
        return Looks.thickBeyondJoin(rod);
    }

    public int odds(int ring, int n) throws IndexOutOfBoundsException, IllegalArgumentException {
        requireRing(ring);
        requireNumber(n, 0, MOST_ODDS_HOURS);
        return clock.oddsToStay(rod, ring, n);
    }

    public int twins() {
        return Looks.likePairs(rod);
    }

    public int ahead(int ring, int n) throws IndexOutOfBoundsException, IllegalArgumentException {
        requireRing(ring);
        requireNumber(n, 0, MOST_HOURS);
        clock.goAhead(rod, n);
        return draft.fade[ring];
    }

    public int trial(int n, boolean loose) throws IllegalArgumentException {
        requireNumber(n, 0, MOST_HOURS);
        clock.tryHours(rod, n, rod.seed);
        return loose ? draft.unhooked() : draft.snagged;
    }

    public int span(int n, boolean most) throws IllegalArgumentException {
        requireNumber(n, 0, MOST_HOURS);
        int extreme = NONE;
        for (int seed = 1; seed <= TRIED_SEEDS; seed++) {
            clock.tryHours(rod, n, seed);
            int troubles = Integer.bitCount(draft.snagged) + Integer.bitCount(draft.unhooked());
            if (extreme == NONE || (most ? troubles > extreme : troubles < extreme)) {
                extreme = troubles;
            }
        }
        return extreme;
    }

    public int led(int ring, boolean place) throws IndexOutOfBoundsException {
        requireRing(ring);
        return place ? rod.log.latestPlace(ring) : rod.log.rowsOf(ring);
    }

    public int log(int ago, int what) throws NoSuchElementException {
        if (what < 0 || what >= Log.COLUMNS) {
            throw new NoSuchElementException("a row has nothing of that number");
        }
        return rod.log.read(ago, what);
    }

    public int seed(int n) {
        int before = rod.seed;
        rod.seed = n;
        return before;
    }

    public boolean undo() {
        return acts.takeBack(rod);
    }

    public void image() {
        if (keptRod == null) {
            keptRod = new Rod();
        }
        if (keptLaw == null) {
            keptLaw = new Law();
        }
        keptRod.copyFrom(rod);
        keptLaw.copyFrom(law);
    }

    public boolean back() {
        if (keptRod == null || keptLaw == null) {
            return false;
        }
        rod.copyFrom(keptRod);
        law.copyFrom(keptLaw);
        acts.forget();
        return true;
    }

    public int count(int what) {
        switch (what) {
            case 0:
                return rod.count;
            case 1:
                return rod.texts;
            case 2:
                return law.told ? law.lines : NONE;
            case 3:
                return rod.hour;
            case 4:
                return rod.day;
            case 5:
                return rod.join;
            case 6:
                return rod.wide;
            case 7:
                return rod.chairs;
            case 8:
                return rod.noise;
            case 9:
                return rod.log.size;
            case 10:
                return acts.size;
            default:
                return NONE;
        }
    }

    private void requireRing(int ring) {
        if (ring < 0 || ring >= rod.count) {
            throw new IndexOutOfBoundsException("there is no such ring");
        }
    }

    private void requirePlace(int place) {
        if (place < 0 || place > LAST_PLACE) {
            throw new IndexOutOfBoundsException("there is no such place");
        }
    }

    private void requireNumber(int n, int least, int most) {
        if (n < least || n > most) {
            throw new IllegalArgumentException("the number is out of its bounds");
        }
    }

    private void readSnags() {
        boolean right = pulls.areRows(rod.count);
        if (right) {
            pulls.seekSnags(rod);
        }
        tape.length = 0;
        if (!right) {
            throw new IllegalArgumentException("the tape holds no such rows");
        }
    }

    private static int bit(int set, int member) {
        return (set >>> member) & 1;
    }

    private static int withBit(int set, int member, boolean is) {
        return is ? set | 1 << member : set & ~(1 << member);
    }

    /** The bytes that were fed and not used up yet, and the words, numbers and signs that they make. */
    private static final class Tape {
        static final int END = -1;
        static final int UNKNOWN = -2;
        static final int NUMBER = -3;
        /** A word is told by its index in WORDS; a sign, by its byte, from FIRST_SIGN on. */
        static final int RING = 0;
        static final int PLACE = 1;
        static final int GAP = 2;
        static final int FADE = 3;
        static final int LONG = 4;
        static final int HOUR = 5;
        static final int DAY = 6;
        static final int WOOD = 7;
        static final int THICK = 8;
        static final int LIT = 9;
        static final int HOOKED = 10;
        static final int NOT = 11;
        static final int AND = 12;
        static final int OR = 13;
        static final int IF = 14;
        static final int CATCH = 15;
        static final int FALL = 16;
        static final int AT = 17;
        static final int CLOTH = 18;
        static final int CAUGHT = 19;
        static final int CHAIR = 20;
        static final int JOIN = 21;
        static final int WIDE = 22;
        static final int FIRST_SIGN = 32;
        private static final String WORDS =
            "ring place gap fade long hour day wood thick lit hooked not and or if catch fall at cloth caught chair join wide ";
        private static final int BYTES_A_FEED = 20;
        private static final int MOST_DIGITS = 3;
        private static final int TOO_GREAT = 1000;

        private final byte[] bytes = new byte[TAPE_BYTES];
        private final int[] kinds = new int[TAPE_BYTES];
        private final int[] starts = new int[TAPE_BYTES];
        private final int[] numbers = new int[TAPE_BYTES];
        private int things;
        private int next;
        int length;

        boolean hasRoom() {
            return length + BYTES_A_FEED <= TAPE_BYTES;
        }

        void put(int number) {
            for (int shift = 24; shift >= 0 && length < TAPE_BYTES; shift -= 8) {
                bytes[length] = (byte) (number >>> shift);
                length++;
            }
        }

        int at(int index) {
            return index < 0 || index >= length || index >= TAPE_BYTES ? NONE : bytes[index] & 255;
        }

        /** Parts the bytes into things, so that a reader then has only to take one behind another. */
        void scan() {
            things = 0;
            next = 0;
            int start = 0;
            while (start < length && things < TAPE_BYTES) {
                int stop = start + 1;
                if (at(start) != ' ') {
                    stop = scanThing(start);
                    starts[things] = start;
                    things++;
                }
                start = stop;
            }
        }

        private int scanThing(int start) {
            int stop = endOfRow(start, 'a', 'z');
            if (stop > start) {
                kinds[things] = wordBetween(start, stop);
                return stop;
            }
            stop = endOfRow(start, '0', '9');
            if (stop > start) {
                kinds[things] = NUMBER;
                numbers[things] = numberBetween(start, stop);
                return stop;
            }
            int sign = at(start);
            kinds[things] = sign < FIRST_SIGN ? UNKNOWN : sign;
            return start + 1;
        }

        private int endOfRow(int start, int least, int most) {
            int stop = start;
            while (stop < length && at(stop) >= least && at(stop) <= most) {
                stop++;
            }
            return stop;
        }

        private int numberBetween(int start, int stop) {
            if (stop - start > MOST_DIGITS) {
                return TOO_GREAT;
            }
            int number = 0;
            for (int i = start; i < stop; i++) {
                number = 10 * number + at(i) - '0';
            }
            return number;
        }

        private int wordBetween(int start, int stop) {
            int word = 0;
            int from = 0;
            for (int to = 0; to < WORDS.length(); to++) {
                if (WORDS.charAt(to) == ' ') {
                    if (to - from == stop - start && standsAt(start, from, to)) {
                        return word;
                    }
                    word++;
                    from = to + 1;
                }
            }
            return UNKNOWN;
        }

        private boolean standsAt(int start, int from, int to) {
            for (int i = from; i < to; i++) {
                if (at(start + i - from) != WORDS.charAt(i)) {
                    return false;
                }
            }
            return true;
        }

        /** The kind of the next thing, which is not taken yet. */
        int kind() {
            return next < things ? kinds[next] : END;
        }

        /** Where the next thing begins: what is wrong is never taken, so this is the first wrong byte then. */
        int start() {
            return next < things ? starts[next] : length;
        }

        void skip() {
            if (next < things) {
                next++;
            }
        }

        boolean take(int kind) {
            if (next >= things || kinds[next] != kind) {
                return false;
            }
            next++;
            return true;
        }

        /** The number, or NONE if there is none within these bounds. */
        int takeNumber(int least, int most) {
            if (next >= things || kinds[next] != NUMBER || numbers[next] < least || numbers[next] > most) {
                return NONE;
            }
            next++;
            return numbers[next - 1];
        }
    }

    /** All that hangs and stands, without the law; small enough to be copied for undoing and trying. */
    private static final class Rod {
        final int[] place = new int[RINGS];
        final int[] cloth = new int[RINGS];
        final int[] fade = new int[RINGS];
        final int[] length = new int[RINGS];
        final Log log = new Log();
        int count;
        int thick;
        int wood;
        int hooked;
        int snagged;
        int chairs;
        int join = 16;
        int wide = 8;
        int hour;
        int day;
        int noise;
        int seed = 1;
        int texts;

        void copyFrom(Rod other) {
            System.arraycopy(other.cloth, 0, cloth, 0, RINGS);
            System.arraycopy(other.fade, 0, fade, 0, RINGS);
            System.arraycopy(other.length, 0, length, 0, RINGS);
            log.copyFrom(other.log);
            count = other.count;
            thick = other.thick;
            wood = other.wood;
            hooked = other.hooked;
            chairs = other.chairs;
            join = other.join;
            wide = other.wide;
            hour = other.hour;
            day = other.day;
            seed = other.seed;
            texts = other.texts;
            hangAs(other);
        }

        /** Takes over only what a pull changes and who is caught: searches do this thousands of times. */
        void hangAs(Rod other) {
            System.arraycopy(other.place, 0, place, 0, RINGS);
            noise = other.noise;
            snagged = other.snagged;
        }

        int nearestNew() {
            return count == 0 ? 0 : place[count - 1] + 1;
        }

        int farthestNew() {
            return count == 0 ? LAST_PLACE : Math.min(LAST_PLACE, place[count - 1] + cloth[count - 1]);
        }

        void add(int at, int clothBehind) {
            if (count >= RINGS) {
                return;
            }
            place[count] = at;
            cloth[count] = clothBehind;
            fade[count] = 0;
            length[count] = 0;
            thick = withBit(thick, count, false);
            wood = withBit(wood, count, false);
            hooked = withBit(hooked, count, true);
            snagged = withBit(snagged, count, false);
            count++;
        }

        int gap(int ring, int ofLast) {
            return ring < 0 || ring >= count - 1 ? ofLast : place[ring + 1] - place[ring];
        }

        boolean isLit(int ring, int atHour) {
            return place[ring] >= PLACES_AN_HOUR * atHour && place[ring] <= PLACES_AN_HOUR * atHour + wide;
        }

        int unhooked() {
            return ((1 << count) - 1) & ~hooked;
        }

        int allFades() {
            int sum = 0;
            for (int i = 0; i < count; i++) {
                sum += fade[i];
            }
            return sum;
        }

        int shadow() {
            int places = 0;
            for (int i = 0; i + 1 < count; i++) {
                if (bit(hooked, i) == 1 && bit(hooked, i + 1) == 1) {
                    places |= (-1 << place[i]) & (-1 >>> (LAST_PLACE - place[i + 1]));
                }
            }
            return places;
        }

        int shadedChairs() {
            return Integer.bitCount(chairs & shadow());
        }

        /** The rings that go by one step, as bits; 0 if nobody can go. */
        int goers(int ring, boolean right) {
            // A ring takes along only rings next to it, so those that go always stand in one row.
            int lowest = ring;
            int highest = ring;
            while (highest + 1 < count && goTogether(highest, right)) {
                highest++;
            }
            while (lowest > 0 && goTogether(lowest - 1, !right)) {
                lowest--;
            }
            for (int i = lowest; i <= highest; i++) {
                if (isStopped(i, right)) {
                    return 0;
                }
            }
            return (1 << (highest + 1)) - (1 << lowest);
        }

        /** Whether, of a ring and the next one, one that goes takes the other along: ahead of it, or behind. */
        private boolean goTogether(int left, boolean otherIsAhead) {
            int gap = place[left + 1] - place[left];
            return ((snagged >>> left) & 1) == 1 || (otherIsAhead ? gap == 1 : gap + 1 > cloth[left]);
        }

        private boolean isStopped(int ring, boolean right) {
            if (place[ring] == (right ? LAST_PLACE : 0)) {
                return true;
            }
            return ((thick >>> ring) & 1) == 1 && place[ring] == (right ? join - 1 : join);
        }

        /** A pull: how many steps it went. */
        int move(int ring, boolean right, int steps) {
            for (int far = 0; far < steps; far++) {
                int goers = goers(ring, right);
                if (goers == 0) {
                    return far;
                }
                for (int i = 0; i < count; i++) {
                    if (bit(goers, i) == 1) {
                        place[i] += right ? 1 : -1;
                    }
                }
                noise = Math.min(MOST_COUNTED, noise + Integer.bitCount(goers & ~wood));
            }
            return steps;
        }
    }

    /** The latest pulls, catches and falls, each row packed into one int. */
    private static final class Log {
        static final int COLUMNS = 6;
        private static final int ROWS = 60;
        private static final int RING = 2;
        private static final int PLACE = 5;
        private static final int[] SHIFTS = {18, 15, 12, 10, 5, 0};
        private static final int[] MASKS = {16383, 7, 7, 3, 31, 31};

        private final int[] rows = new int[ROWS];
        int size;
        private int next;

        void copyFrom(Log other) {
            System.arraycopy(other.rows, 0, rows, 0, ROWS);
            size = other.size;
            next = other.next;
        }

        void add(Rod rod, int ring, int kind, int far) {
            rows[next] = rod.day << SHIFTS[0] | rod.hour << SHIFTS[1] | ring << SHIFTS[2]
                    | kind << SHIFTS[3] | far << SHIFTS[4] | rod.place[ring] << SHIFTS[5];
            next = next + 1 < ROWS ? next + 1 : 0;
            size = Math.min(ROWS, size + 1);
        }

        int read(int ago, int column) {
            if (ago < 0 || ago >= size || column < 0 || column >= COLUMNS) {
                return NONE;
            }
            int row = rows[Math.floorMod(next - 1 - ago, ROWS)];
            return (row >>> SHIFTS[column]) & MASKS[column];
        }

        int rowsOf(int ring) {
            int rowsOfIt = 0;
            for (int ago = 0; ago < size; ago++) {
                if (read(ago, RING) == ring) {
                    rowsOfIt++;
                }
            }
            return rowsOfIt;
        }

        int latestPlace(int ring) {
            for (int ago = 0; ago < size; ago++) {
                if (read(ago, RING) == ring) {
                    return read(ago, PLACE);
                }
            }
            return NONE;
        }
    }

    /** How rings fade, catch and fall: lines whose conditions are kept as codes for a small stack. */
    private static final class Law {
        static final int MOST_LINES = 12;
        /** Codes are those of the tape's words; a number is its own value and this. */
        static final int FIRST_NUMBER = 256;
        private static final int GAP_OF_LAST = 99;
        private static final int UNTOLD_CATCHES = 10;
        /** A condition in at most 6 brackets holds two values at each level, and a comparison three more. */
        private static final int STACK = 24;

        private final int[] kinds = new int[MOST_LINES];
        private final int[] amounts = new int[MOST_LINES];
        private final int[] stops = new int[MOST_LINES];
        private final int[] codes = new int[TAPE_BYTES];
        private final int[] stack = new int[STACK];
        private int depth;
        private int size;
        boolean told;
        int lines;

        void begin() {
            told = true;
            lines = 0;
            size = 0;
        }

        void copyFrom(Law other) {
            System.arraycopy(other.kinds, 0, kinds, 0, MOST_LINES);
            System.arraycopy(other.amounts, 0, amounts, 0, MOST_LINES);
            System.arraycopy(other.stops, 0, stops, 0, MOST_LINES);
            System.arraycopy(other.codes, 0, codes, 0, TAPE_BYTES);
            size = other.size;
            told = other.told;
            lines = other.lines;
        }

        void addLine(int kind, int amount) {
            if (lines < MOST_LINES) {
                kinds[lines] = kind;
                amounts[lines] = amount;
                stops[lines] = size;
                lines++;
            }
        }

        /** Puts a word, a sign or a number behind the condition of the latest line. */
        void addCode(int code) {
            if (size < TAPE_BYTES && lines > 0) {
                codes[size] = code;
                size++;
                stops[lines - 1] = size;
            }
        }

        int amount(int kind, Rod rod, int ring) {
            if (!told) {
                return untoldAmount(kind, rod, ring);
            }
            int sum = 0;
            for (int line = 0; line < lines; line++) {
                if (kinds[line] == kind && holds(line, rod, ring)) {
                    sum += amounts[line];
                }
            }
            return sum;
        }

        private static int untoldAmount(int kind, Rod rod, int ring) {
            if (kind == FADES) {
                return rod.isLit(ring, rod.hour) ? 1 : 0;
            }
            return kind == CATCHES ? UNTOLD_CATCHES : 0;
        }

        private boolean holds(int line, Rod rod, int ring) {
            depth = 0;
            for (int at = line == 0 ? 0 : stops[line - 1]; at < stops[line]; at++) {
                int code = codes[at];
                if (isValue(code)) {
                    push(value(code, rod, ring));
                } else if (code == Tape.NOT) {
                    push(1 - pop());
                } else {
                    int right = pop();
                    push(joined(code, pop(), right));
                }
            }
            return depth == 0 || pop() != 0;
        }

        private static boolean isValue(int code) {
            return code >= FIRST_NUMBER || code <= Tape.HOOKED;
        }

        private void push(int value) {
            if (depth < STACK) {
                stack[depth] = value;
                depth++;
            }
        }

        private int pop() {
            if (depth <= 0) {
                return 0;
            }
            depth--;
            return stack[depth];
        }

        private static int value(int code, Rod rod, int ring) {
            switch (code) {
                case Tape.RING:
                    return ring;
                case Tape.PLACE:
                    return rod.place[ring];
                case Tape.GAP:
                    return rod.gap(ring, GAP_OF_LAST);
                case Tape.FADE:
                    return rod.fade[ring];
                case Tape.LONG:
                    return rod.length[ring];
                case Tape.HOUR:
                    return rod.hour;
                case Tape.DAY:
                    return rod.day;
                case Tape.WOOD:
                    return bit(rod.wood, ring);
                case Tape.THICK:
                    return bit(rod.thick, ring);
                case Tape.LIT:
                    return rod.isLit(ring, rod.hour) ? 1 : 0;
                case Tape.HOOKED:
                    return bit(rod.hooked, ring);
                default:
                    return code - FIRST_NUMBER;
            }
        }

        private static int joined(int code, int left, int right) {
            switch (code) {
                case '+':
                    return left + right;
                case '<':
                    return left < right ? 1 : 0;
                case '>':
                    return left > right ? 1 : 0;
                case Tape.AND:
                    return left & right;
                default:
                    return left | right;
            }
        }
    }

    /** Reads the tape as lines. */
    private abstract static class LineReader {
        final Tape tape;
        private final int mostLines;

        LineReader(Tape tape, int mostLines) {
            this.tape = tape;
            this.mostLines = mostLines;
        }

        abstract boolean readLine();

        /** The first wrong byte, or NONE. */
        int read() {
            tape.scan();
            if (tape.kind() == Tape.END) {
                return NONE;
            }
            for (int line = 0; line < mostLines; line++) {
                if (!readLine()) {
                    return tape.start();
                }
                if (tape.kind() == Tape.END) {
                    return NONE;
                }
                if (!tape.take(';')) {
                    return tape.start();
                }
            }
            return tape.start();
        }
    }

    /** Reads a text of the pole onto a draft, so that nothing stays of a wrong one. */
    private static final class RodReader extends LineReader {
        private static final int MOST_LINES = 14;
        private static final int MOST_TOLD_DAY = 999;

        private final Rod draft;

        RodReader(Tape tape, Rod draft) {
            super(tape, MOST_LINES);
            this.draft = draft;
        }

        boolean readLine() {
            int word = tape.kind();
            if (!beginsLine(word) || word == Tape.RING && draft.count >= RINGS) {
                return false;
            }
            tape.skip();
            if (word == Tape.RING) {
                return readRing();
            }
            int number = readNumber(word);
            if (number == NONE) {
                return false;
            }
            keepNumber(word, number);
            return true;
        }

        private static boolean beginsLine(int word) {
            return word == Tape.RING || word == Tape.CAUGHT || word == Tape.CHAIR || word == Tape.JOIN
                    || word == Tape.WIDE || word == Tape.HOUR || word == Tape.DAY;
        }

        private int readNumber(int word) {
            switch (word) {
                case Tape.CAUGHT:
                    return tape.takeNumber(0, draft.count - 2);
                case Tape.JOIN:
                    return tape.takeNumber(1, LAST_PLACE);
                case Tape.HOUR:
                    return tape.takeNumber(0, HOURS_A_DAY - 1);
                case Tape.DAY:
                    return tape.takeNumber(0, MOST_TOLD_DAY);
                default:
                    return tape.takeNumber(0, LAST_PLACE);
            }
        }

        private void keepNumber(int word, int number) {
            switch (word) {
                case Tape.CAUGHT:
                    draft.snagged = withBit(draft.snagged, number, true);
                    break;
                case Tape.CHAIR:
                    draft.chairs = withBit(draft.chairs, number, true);
                    break;
                case Tape.JOIN:
                    draft.join = number;
                    break;
                case Tape.WIDE:
                    draft.wide = number;
                    break;
                case Tape.HOUR:
                    draft.hour = number;
                    break;
                default:
                    draft.day = number;
                    break;
            }
        }

        private boolean readRing() {
            if (!tape.take(Tape.AT)) {
                return false;
            }
            int place = tape.takeNumber(draft.nearestNew(), draft.farthestNew());
            if (place == NONE || !tape.take(Tape.CLOTH)) {
                return false;
            }
            int cloth = tape.takeNumber(1, MOST_CLOTH);
            if (cloth == NONE) {
                return false;
            }
            int ring = draft.count;
            draft.add(place, cloth);
            draft.thick = withBit(draft.thick, ring, tape.take(Tape.THICK));
            draft.wood = withBit(draft.wood, ring, tape.take(Tape.WOOD));
            return readMore(Tape.FADE, draft.fade, ring, MOST_FADE)
                    && readMore(Tape.LONG, draft.length, ring, MOST_LONG);
        }

        private boolean readMore(int word, int[] row, int ring, int most) {
            if (ring >= row.length || !tape.take(word)) {
                return true;
            }
            int number = tape.takeNumber(0, most);
            row[ring] = number;
            return number != NONE;
        }
    }

    /** Reads a text of the law onto a draft; a condition's codes come out parts first, then what joins them. */
    private static final class LawReader extends LineReader {
        private static final int MOST_AMOUNT = 100;
        private static final int MOST_NUMBER = 999;
        private static final int MOST_DEPTH = 6;

        private final Law draft;

        LawReader(Tape tape, Law draft) {
            super(tape, Law.MOST_LINES);
            this.draft = draft;
        }

        boolean readLine() {
            int word = tape.kind();
            if (word != Tape.FADE && word != Tape.CATCH && word != Tape.FALL) {
                return false;
            }
            tape.skip();
            int amount = tape.takeNumber(0, MOST_AMOUNT);
            if (amount == NONE) {
                return false;
            }
            draft.addLine(word == Tape.FADE ? FADES : word == Tape.CATCH ? CATCHES : FALLS, amount);
            return !tape.take(Tape.IF) || readCondition(0);
        }

        private boolean readCondition(int depth) {
            boolean behindAnd = false;
            boolean behindOr = false;
            for (int n = 0; n < TAPE_BYTES; n++) {
                if (!readAtom(depth)) {
                    return false;
                }
                if (behindAnd) {
                    draft.addCode(Tape.AND);
                }
                behindAnd = tape.take(Tape.AND);
                if (!behindAnd) {
                    if (behindOr) {
                        draft.addCode(Tape.OR);
                    }
                    behindOr = tape.take(Tape.OR);
                    if (!behindOr) {
                        return true;
                    }
                }
            }
            return false;
        }

        private boolean readAtom(int depth) {
            int kind = tape.kind();
            if ((kind == Tape.NOT || kind == '(') && depth >= MOST_DEPTH) {
                return false;
            }
            if (tape.take(Tape.NOT)) {
                boolean right = readAtom(depth + 1);
                draft.addCode(Tape.NOT);
                return right;
            }
            if (tape.take('(')) {
                return readCondition(depth + 1) && tape.take(')');
            }
            if (kind >= Tape.WOOD && kind <= Tape.HOOKED) {
                tape.skip();
                draft.addCode(kind);
                return true;
            }
            return readComparison();
        }

        private boolean readComparison() {
            if (!readSum()) {
                return false;
            }
            int sign = tape.kind();
            if (!tape.take('<') && !tape.take('>')) {
                return false;
            }
            boolean right = readSum();
            draft.addCode(sign);
            return right;
        }

        private boolean readSum() {
            boolean behindPlus = false;
            for (int n = 0; n < TAPE_BYTES; n++) {
                int kind = tape.kind();
                if (kind >= Tape.RING && kind <= Tape.DAY) {
                    tape.skip();
                    draft.addCode(kind);
                } else {
                    int number = tape.takeNumber(0, MOST_NUMBER);
                    if (number == NONE) {
                        return false;
                    }
                    draft.addCode(Law.FIRST_NUMBER + number);
                }
                if (behindPlus) {
                    draft.addCode('+');
                }
                behindPlus = tape.take('+');
                if (!behindPlus) {
                    return true;
                }
            }
            return false;
        }
    }

    /** Lets hours go by, for good or on the draft. */
    private static final class Clock {
        private static final int HUNDRED = 100;
        private static final int ALL_ODDS = 10000;

        private final Law law;
        private final Rod draft;

        Clock(Law law, Rod draft) {
            this.law = law;
            this.draft = draft;
        }

        /** How many rings were caught, or fell. */
        int run(Rod rod, int hours) {
            int events = 0;
            for (int i = 0; i < hours; i++) {
                fadeAll(rod);
                events += catchSome(rod) + dropSome(rod);
                turn(rod);
            }
            return events;
        }

        void tryHours(Rod rod, int hours, int seed) {
            draft.copyFrom(rod);
            draft.seed = seed;
            run(draft, hours);
        }

        void goAhead(Rod rod, int hours) {
            draft.copyFrom(rod);
            for (int i = 0; i < hours; i++) {
                fadeAll(draft);
                turn(draft);
            }
        }

        int firstPale(Rod rod) {
            draft.copyFrom(rod);
            for (int hours = 0; hours <= MOST_HOURS; hours++) {
                if (isSomePale(draft)) {
                    return hours;
                }
                fadeAll(draft);
                turn(draft);
            }
            return NONE;
        }

        int oddsToStay(Rod rod, int ring, int hours) {
            int falls = Math.min(HUNDRED, law.amount(FALLS, rod, ring));
            int odds = ALL_ODDS;
            for (int i = 0; i < hours; i++) {
                odds = odds * (HUNDRED - falls) / HUNDRED;
            }
            return odds;
        }

        private static boolean isSomePale(Rod rod) {
            for (int i = 0; i < rod.count; i++) {
                if (rod.fade[i] == MOST_FADE) {
                    return true;
                }
            }
            return false;
        }

        private void fadeAll(Rod rod) {
            for (int i = 0; i < rod.count; i++) {
                rod.fade[i] = Math.min(MOST_FADE, rod.fade[i] + law.amount(FADES, rod, i));
            }
        }

        private int catchSome(Rod rod) {
            int events = 0;
            for (int i = 0; i < rod.count; i++) {
                if (rod.gap(i, NONE) == 1 && bit(rod.snagged, i) == 0
                        && draw(rod) < law.amount(CATCHES, rod, i)) {
                    rod.snagged = withBit(rod.snagged, i, true);
                    rod.log.add(rod, i, GOT_CAUGHT, 0);
                    events++;
                }
            }
            return events;
        }

        private int dropSome(Rod rod) {
            int events = 0;
            for (int i = 0; i < rod.count; i++) {
                if (bit(rod.hooked, i) == 1 && draw(rod) < law.amount(FALLS, rod, i)) {
                    rod.hooked = withBit(rod.hooked, i, false);
                    rod.log.add(rod, i, FELL, 0);
                    events++;
                }
            }
            return events;
        }

        private static int draw(Rod rod) {
            rod.seed = 1103515245 * rod.seed + 12345;
            return ((rod.seed >>> 16) & 32767) % HUNDRED;
        }

        private static void turn(Rod rod) {
            rod.hour++;
            if (rod.hour >= HOURS_A_DAY) {
                rod.hour = 0;
                rod.day = Math.min(MOST_COUNTED, rod.day + 1);
            }
        }
    }

    /** How all was ahead of each of the latest acts. */
    private static final class Acts {
        private static final int MOST = 12;

        private final Rod[] before = new Rod[MOST];
        private int next;
        int size;

        void remember(Rod rod) {
            if (before[next] == null) {
                before[next] = new Rod();
            }
            before[next].copyFrom(rod);
            next = next + 1 < MOST ? next + 1 : 0;
            size = Math.min(MOST, size + 1);
        }

        boolean takeBack(Rod rod) {
            int latest = next > 0 ? next - 1 : MOST - 1;
            if (size == 0 || before[latest] == null) {
                return false;
            }
            rod.copyFrom(before[latest]);
            next = latest;
            size--;
            return true;
        }

        void forget() {
            size = 0;
        }
    }

    /** Searches that try pulls on the draft. */
    private static final class Pulls {
        private static final int BYTES_A_ROW = 4;
        private static final int MOST_ROWS = 40;
        private static final int MOST_SETS = 128;

        private final Tape tape;
        private final Rod draft;
        private final int[] fitting = new int[MOST_SETS];
        private final int[] parts = new int[MOST_STEPS + 1];
        int fits;
        int steps;
        int mover;

        Pulls(Tape tape, Rod draft) {
            this.tape = tape;
            this.draft = draft;
        }

        int shadiest(Rod rod) {
            draft.copyFrom(rod);
            int most = rod.shadedChairs();
            int answer = NONE;
            for (int way = 0; way < 2 * rod.count; way++) {
                draft.hangAs(rod);
                for (int n = 1; n <= MOST_STEPS && draft.move(way / 2, way % 2 == 1, 1) == 1; n++) {
                    int chairs = draft.shadedChairs();
                    if (chairs > most) {
                        most = chairs;
                        answer = 32 * way + n;
                    }
                }
            }
            return answer;
        }

        /** Puts the fewest steps to steps, and by which ring and side to mover. */
        void seekShade(Rod rod, int places) {
            mover = NONE;
            steps = (rod.shadow() & places) == places ? 0 : NONE;
            if (steps == 0) {
                return;
            }
            draft.copyFrom(rod);
            for (int way = 0; way < 2 * rod.count; way++) {
                int n = stepsToShade(rod, places, way);
                if (n != NONE && (steps == NONE || n < steps)) {
                    steps = n;
                    mover = way;
                }
            }
        }

        private int stepsToShade(Rod rod, int places, int way) {
            draft.hangAs(rod);
            for (int n = 1; n <= MOST_STEPS && draft.move(way / 2, way % 2 == 1, 1) == 1; n++) {
                if ((draft.shadow() & places) == places) {
                    return n;
                }
            }
            return NONE;
        }

        int fewestFreed(Rod rod, int ring, boolean right, int n) {
            draft.copyFrom(rod);
            int answer = NONE;
            for (int freed = 0; freed < MOST_SETS; freed++) {
                boolean fewer = answer == NONE || Integer.bitCount(freed) < Integer.bitCount(answer);
                if ((freed & ~rod.snagged) == 0 && fewer
                        && farWith(rod, rod.snagged & ~freed, ring, right, n) == n) {
                    answer = freed;
                }
            }
            return answer;
        }

        /** How far a pull goes if just these rings have caught; the draft is a copy of the rod already. */
        private int farWith(Rod rod, int snagged, int ring, boolean right, int n) {
            draft.hangAs(rod);
            draft.snagged = snagged;
            return draft.move(ring, right, n);
        }

        boolean areRows(int rings) {
            if (tape.length % BYTES_A_ROW != 0 || tape.length > BYTES_A_ROW * MOST_ROWS) {
                return false;
            }
            for (int at = 0; at < tape.length; at += BYTES_A_ROW) {
                if (tape.at(at) >= rings || tape.at(at + 1) > 1 || tape.at(at + 2) < 1
                        || tape.at(at + 2) > MOST_STEPS || tape.at(at + 3) > MOST_STEPS) {
                    return false;
                }
            }
            return true;
        }

        /** Gathers the sets that fit the rows on the tape. */
        void seekSnags(Rod rod) {
            draft.copyFrom(rod);
            fits = 0;
            int sets = rod.count == 0 ? 1 : 1 << (rod.count - 1);
            for (int set = 0; set < sets && fits < MOST_SETS; set++) {
                if (isFitting(rod, set)) {
                    fitting[fits] = set;
                    fits++;
                }
            }
        }

        private boolean isFitting(Rod rod, int set) {
            for (int at = 0; at < tape.length; at += BYTES_A_ROW) {
                int far = farWith(rod, set, tape.at(at), tape.at(at + 1) == 1, tape.at(at + 2));
                if (far != tape.at(at + 3)) {
                    return false;
                }
            }
            return true;
        }

        int inAllFitting() {
            int sure = fits == 0 ? 0 : fitting[0];
            for (int i = 1; i < fits; i++) {
                sure &= fitting[i];
            }
            return sure;
        }

        int partingPull(Rod rod) {
            if (fits < 2) {
                return NONE;
            }
            int answer = NONE;
            int least = MOST_SETS + 1;
            for (int way = 0; way < 2 * rod.count; way++) {
                int greatest = greatestPart(rod, way);
                if (greatest < least) {
                    least = greatest;
                    answer = way;
                }
            }
            return answer;
        }

        private int greatestPart(Rod rod, int way) {
            for (int i = 0; i < parts.length; i++) {
                parts[i] = 0;
            }
            int greatest = 0;
            for (int i = 0; i < fits; i++) {
                int far = farWith(rod, fitting[i], way / 2, way % 2 == 1, MOST_STEPS);
                parts[far]++;
                greatest = Math.max(greatest, parts[far]);
            }
            return greatest;
        }
    }

    /** What can be seen of a rod as it hangs. */
    private static final class Looks {
        static int hangsBy(Rod rod, int ring) {
            if (bit(rod.hooked, ring) == 1) {
                return ring;
            }
            int nearest = NONE;
            int least = LAST_PLACE + 1;
            for (int i = 0; i < rod.count; i++) {
                int away = Math.abs(rod.place[i] - rod.place[ring]);
                if (bit(rod.hooked, i) == 1 && away < least) {
                    least = away;
                    nearest = i;
                }
            }
            return nearest;
        }

        static int share(Rod rod, int ring) {
            int all = rod.allFades();
            return all == 0 ? 0 : 100 * rod.fade[ring] / all;
        }

        static int outOfOrder(Rod rod) {
            int most = 0;
            for (int staying = 0; staying < 1 << rod.count; staying++) {
                if (isInOrder(rod, staying)) {
                    most = Math.max(most, Integer.bitCount(staying));
                }
            }
            return rod.count - most;
        }

        private static boolean isInOrder(Rod rod, int staying) {
            int latest = 0;
            for (int i = 0; i < rod.count; i++) {
                if (bit(staying, i) == 1) {
                    if (rod.fade[i] < latest) {
                        return false;
                    }
                    latest = rod.fade[i];
                }
            }
            return true;
        }

        static int tightest(Rod rod, int n) {
            int answer = NONE;
            int least = LAST_PLACE + 1;
            for (int i = 0; i + n <= rod.count; i++) {
                int wide = rod.place[i + n - 1] - rod.place[i];
                if (wide < least) {
                    least = wide;
                    answer = i;
                }
            }
            return answer;
        }

        static int spareCloth(Rod rod) {
            int sum = 0;
            for (int i = 0; i + 1 < rod.count; i++) {
                sum += rod.cloth[i] - rod.gap(i, 0);
            }
            return sum;
        }

        static int tautRings(Rod rod) {
            int set = 0;
            for (int i = 0; i + 1 < rod.count; i++) {
                set = withBit(set, i, rod.gap(i, 0) == rod.cloth[i]);
            }
            return set;
        }

        static int litRings(Rod rod, int hour) {
            int set = 0;
            for (int i = 0; i < rod.count; i++) {
                set = withBit(set, i, rod.isLit(i, hour));
            }
            return set;
        }

        static int sunniest(Rod rod) {
            int answer = NONE;
            int most = NONE;
            for (int i = 0; i < rod.count; i++) {
                int hours = litHours(rod, i);
                if (hours > most) {
                    most = hours;
                    answer = i;
                }
            }
            return answer;
        }

        private static int litHours(Rod rod, int ring) {
            int hours = 0;
            for (int hour = 0; hour < HOURS_A_DAY; hour++) {
                if (rod.isLit(ring, hour)) {
                    hours++;
                }
            }
            return hours;
        }

        static int evenLength(Rod rod, int ring, int most) {
            if (rod.count == 0) {
                return NONE;
            }
            int sum = 0;
            for (int i = 0; i < rod.count; i++) {
                sum += rod.length[i];
            }
            int even = sum / rod.count;
            int over = sum % rod.count;
            if (even + (over > 0 ? 1 : 0) > most) {
                return NONE;
            }
            return ring < over ? even + 1 : even;
        }

        static int enviousPairs(Rod rod) {
            int pairs = 0;
            for (int i = 0; i + 1 < rod.count; i++) {
                if (Math.abs(rod.length[i] - rod.length[i + 1]) >= 2) {
                    pairs++;
                }
            }
            return pairs;
        }

        static int restingChoices(Rod rod, int ring) {
            if (ring >= rod.count - 1) {
                return NONE;
            }
            int set = 0;
            for (int choice = 0; choice < 4; choice++) {
                int gain = gain(rod, ring, choice);
                // Bit 1 of a choice is the left one's, bit 0 the right one's; both always gain the same.
                set = withBit(set, choice, gain >= gain(rod, ring, choice ^ 2) && gain >= gain(rod, ring, choice ^ 1));
            }
            return set;
        }

        private static int gain(Rod rod, int ring, int choice) {
            switch (choice) {
                case 1:
                    return bit(rod.snagged, ring) == 1 ? -2 : 1;
                case 2:
                    return rod.gap(ring, 0) - 1;
                default:
                    return 2;
            }
        }

        static int largestBunch(Rod rod) {
            int most = 0;
            int bunched = 0;
            for (int i = 0; i < rod.count; i++) {
                bunched = rod.gap(i - 1, NONE) == 1 ? bunched + 1 : 1;
                most = Math.max(most, bunched);
            }
            return most;
        }

        static int thickBeyondJoin(Rod rod) {
            int set = 0;
            for (int i = 0; i < rod.count; i++) {
                set = withBit(set, i, bit(rod.thick, i) == 1 && rod.place[i] >= rod.join);
            }
            return set;
        }

        static int likePairs(Rod rod) {
            int pairs = 0;
            for (int i = 0; i < rod.count; i++) {
                for (int j = i + 1; j < rod.count; j++) {
                    if (rod.cloth[i] == rod.cloth[j] && rod.length[i] == rod.length[j] && rod.fade[i] == rod.fade[j]) {
                        pairs++;
                    }
                }
            }
            return pairs;
        }
    }
}
