/** Rooms that say at once all that was said in them, and those who listen. */
public final class PaperHears {
    public static final int NONE = -1, BAD = -2, NO = -3, FULL = -4;

    private static final int ROOMS = 4;
    private static final int KINDS = 6;
    private static final int MOST_SAYINGS = 8;
    private static final int MOST_LISTENERS = 3;
    private static final int MOST_TOLD = 5;
    private static final int MOST_CLUES = 6;
    private static final int MOST_UNDONE = 8;
    private static final int MOST_TEXT = 150;
    private static final int SPEAKING = 30;
    private static final int LAST_MINUTE = 9999;
    private static final int ALL_SETS = 1 << MOST_SAYINGS;

    /** Columns of a saying's row and of a listener's row. */
    private static final int KIND = 0;
    private static final int PLACE = 1;
    private static final int VOLUME = 2;
    private static final int KNOWS = 2;

    private static final int BAD_PAIR = -10;
    private static final int NO_SUCH_PAIR = -5;

    private final House now;
    /** Where a text is read, and jobs are tried, before or without their being so. */
    private final House draft;
    private final House firstImage;
    private final House secondImage;
    private boolean firstKept;
    private boolean secondKept;
    private final Reader reader;
    private final Plans plans;
    private final Fraction fraction;
    private int badCalls;
    private int noCalls;
    private int fullCalls;

    public PaperHears() {
        now = new House();
        draft = new House();
        firstImage = new House();
        secondImage = new House();
        reader = new Reader();
        plans = new Plans();
        fraction = new Fraction();
    }

    // ---- a house

    public int house() {
        int were = now.sayings.size;
        now.reset();
        return were;
    }

    public int say(int kind, int room, int loud) {
        if (!isKind(kind) || !isRoom(room) || !within(loud, 1, 9)) {
            return refuseBad();
        }
        if (now.sayings.isFull()) {
            return refuseFull();
        }
        return now.addSaying(kind, room, loud);
    }

    public int ear(int kind) {
        if (!isKind(kind)) {
            return refuseBad();
        }
        if (now.listeners.isFull()) {
            return refuseFull();
        }
        return now.addListener(kind, 0);
    }

    public int type(int c) {
        if (!within(c, 0, 127)) {
            return refuseBad();
        }
        if (reader.text.isFull()) {
            return refuseFull();
        }
        return reader.text.add(c, 0, 0, 0) + 1;
    }

    public int clear() {
        return reader.text.empty();
    }

    public int read() {
        int answer = reader.readInto(draft);
        if (answer >= 0) {
            now.copy(draft);
        }
        return answer;
    }

    // ---- minutes

    public int strips(int r) {
        if (!isRoom(r)) {
            return refuseBad();
        }
        now.remember();
        now.strip(r);
        return now.roomLoudness(r);
    }

    public int papers(int r) {
        if (!isRoom(r)) {
            return refuseBad();
        }
        if (!now.isStripped(r)) {
            return refuseNo();
        }
        now.remember();
        now.paper(r);
        return 1;
    }

    public int goes(int i, int r) {
        if (!isListener(i) || !isRoom(r)) {
            return refuseBad();
        }
        int was = now.listeners.get(i, PLACE);
        if (was == r) {
            return refuseNo();
        }
        now.remember();
        now.listeners.set(i, PLACE, r);
        return was;
    }

    public int minutes(int n) {
        if (!within(n, 1, 99)) {
            return refuseBad();
        }
        now.remember();
        now.passMinutes(n, LAST_MINUTE);
        return now.knownByAny();
    }

    public int undo() {
        if (now.past.size == 0) {
            return refuseNo();
        }
        now.recall();
        return now.minute;
    }

    public int of(int s, int what) {
        if (!isSaying(s) || !within(what, 0, 2)) {
            return refuseBad();
        }
        return now.sayings.get(s, what);
    }

    public int about(int i, int what) {
        if (!isListener(i) || !within(what, 0, 3)) {
            return refuseBad();
        }
        return what == 3 ? now.heardNow(i) : now.listeners.get(i, what);
    }

    public int room(int r, int what) {
        if (!isRoom(r) || !within(what, 0, 1)) {
            return refuseBad();
        }
        return what == 0 ? now.roomMinute(r, 0) : now.roomLoudness(r);
    }

    // ---- what is heard

    public int loud(int s, int m) {
        if (!isSaying(s) || !isSpeakingMinute(m)) {
            return refuseBad();
        }
        return now.loudness(s, m);
    }

    public int first(int i, int s) {
        if (!isListener(i) || !isSaying(s)) {
            return refuseBad();
        }
        return Plans.firstHearing(now, i, s);
    }

    public int stay(int i, int all, int none, int r) {
        boolean asTold = isListener(i) && isSet(all) && isSet(none) && (all & none) == 0;
        if (!asTold || !within(r, NONE, ROOMS - 1)) {
            return refuseBad();
        }
        if (r == NONE) {
            return Plans.bestStay(now, i, all, none);
        }
        return Plans.stayIn(now, i, all, none, r);
    }

    public int stand(int n, int what) {
        if (!within(n, 1, SPEAKING) || !within(what, 0, 1)) {
            return refuseBad();
        }
        if (!areBrothers()) {
            return refuseNo();
        }
        return plans.bestStand(now, n, what);
    }

    // ---- what was said

    public int told(int r, int m, int x) {
        if (!isRoom(r) || !isSpeakingMinute(m) || !within(x, 0, 99)) {
            return refuseBad();
        }
        if (now.told.isFull()) {
            return refuseFull();
        }
        return now.told.add(r, m, x, 0) + 1;
    }

    public int said(int r, int what) {
        if (!isRoom(r) || !within(what, 0, 2)) {
            return refuseBad();
        }
        return Clues.setsSaid(now, r, what);
    }

    public int note(int s, int l, int m, int x) {
        boolean asTold = isSaying(s) && within(l, 1, 9) && isSpeakingMinute(m);
        if (!asTold || !within(x, 0, 20)) {
            return refuseBad();
        }
        if (now.notes.isFull()) {
            return refuseFull();
        }
        return now.notes.add(s, l, m, x) + 1;
    }

    public int mark(int i, int x, int y, int heard) {
        boolean asTold = isListener(i) && within(x, 0, 20) && within(y, 0, 99);
        if (!asTold || !within(heard, 0, 1)) {
            return refuseBad();
        }
        if (now.marks.isFull()) {
            return refuseFull();
        }
        return now.marks.add(i, x, y, heard) + 1;
    }

    public int forget(int what) {
        switch (what) {
            case 0:
                return now.told.empty();
            case 1:
                return now.notes.empty();
            case 2:
                return now.marks.empty();
            default:
                return refuseBad();
        }
    }

    public int is(int s) {
        if (!isSaying(s)) {
            return refuseBad();
        }
        return Clues.sayingKinds(now, s);
    }

    public int look(int s) {
        if (!isSaying(s)) {
            return refuseBad();
        }
        return Clues.nextLook(now, s);
    }

    public int kinds(int i) {
        if (!isListener(i)) {
            return refuseBad();
        }
        return Clues.listenerKinds(now, i);
    }

    public int ask(int i) {
        if (!isListener(i)) {
            return refuseBad();
        }
        return Clues.nextQuestion(now, i);
    }

    public int brothers(int k) {
        if (k < NONE) {
            refuseBad();
            return BAD_PAIR;
        }
        if (!areBrothers()) {
            return refuseNo();
        }
        return plans.restingPair(now, k);
    }

    public int holds(int i, int s, int c) {
        if (!isListener(i) || !isSaying(s) || !within(c, 0, 10)) {
            return refuseBad();
        }
        fraction.becomeChance(now, i, s, c);
        return 1;
    }

    public int jobs(int seed, int n) {
        if (!within(seed, 0, 999999) || !within(n, 0, 60)) {
            return refuseBad();
        }
        draft.copy(now);
        Plans.workJobs(draft, seed, n);
        return draft.knownByAny();
    }

    // ---- what there is

    public long part(int what) {
        if (!within(what, 0, 1)) {
            return refuseBad();
        }
        return what == 0 ? fraction.above : fraction.below;
    }

    public int image(int i) {
        switch (i) {
            case 0:
                firstImage.copy(now);
                firstKept = true;
                return 1;
            case 1:
                secondImage.copy(now);
                secondKept = true;
                return 1;
            default:
                return refuseBad();
        }
    }

    public int from(int i) {
        if (!within(i, 0, 1)) {
            return refuseBad();
        }
        boolean kept = i == 0 ? firstKept : secondKept;
        if (!kept) {
            return refuseNo();
        }
        now.copy(i == 0 ? firstImage : secondImage);
        return 1;
    }

    public int status(int what) {
        switch (what) {
            case 0:
                return badCalls;
            case 1:
                return noCalls;
            case 2:
                return fullCalls;
            default:
                refuseBad();
                return -1;
        }
    }

    public int count(int what) {
        if (!within(what, 0, 9)) {
            return refuseBad();
        }
        return howMany(what);
    }

    public long digest() {
        long h = 1583;
        for (int what = 0; what < 10; what++) {
            h = 31 * h + howMany(what);
        }
        for (int r = 0; r < ROOMS; r++) {
            h = 31 * h + now.roomMinute(r, 0);
        }
        h = now.sayings.mixedInto(h);
        h = now.listeners.mixedInto(h);
        h = now.told.mixedInto(h);
        h = now.notes.mixedInto(h);
        h = now.marks.mixedInto(h);
        h = 31 * h + fraction.above;
        return 31 * h + fraction.below;
    }

    private int howMany(int what) {
        switch (what) {
            case 0:
                return now.sayings.size;
            case 1:
                return now.listeners.size;
            case 2:
                return now.minute;
            case 3:
                return now.strippedRooms();
            case 4:
                return now.knownByAny();
            case 5:
                return now.told.size;
            case 6:
                return now.notes.size;
            case 7:
                return now.marks.size;
            case 8:
                return now.past.size;
            default:
                return reader.text.size;
        }
    }

    private int refuseBad() {
        badCalls++;
        return BAD;
    }

    private int refuseNo() {
        noCalls++;
        return NO;
    }

    private int refuseFull() {
        fullCalls++;
        return FULL;
    }

    private boolean isSaying(int s) {
        return s >= 0 && s < now.sayings.size;
    }

    private boolean isListener(int i) {
        return i >= 0 && i < now.listeners.size;
    }

    private boolean areBrothers() {
        return now.listeners.size >= 2;
    }

    private boolean isSet(int bits) {
        return bits >= 0 && bits < 1 << now.sayings.size;
    }

    private static boolean isKind(int kind) {
        return kind >= 0 && kind < KINDS;
    }

    private static boolean isRoom(int r) {
        return r >= 0 && r < ROOMS;
    }

    private static boolean isSpeakingMinute(int m) {
        return m >= 0 && m < SPEAKING;
    }

    private static boolean isIn(int set, int s) {
        return ((set >> s) & 1) == 1;
    }

    private static boolean within(int number, int least, int most) {
        return number >= least && number <= most;
    }

    /** Rows of numbers in one array; outside it nothing is read but 0 and nothing written. */
    private static final class Rows {
        final int limit;
        final int width;
        final int[] cells;
        int size;

        Rows(int limit, int width) {
            this.limit = limit;
            this.width = width;
            cells = new int[Math.max(0, limit * width)];
        }

        boolean isFull() {
            return size >= limit;
        }

        int get(int row, int column) {
            int at = row * width + column;
            if (column >= 0 && column < width && at >= 0 && at < cells.length) {
                return cells[at];
            }
            return 0;
        }

        void set(int row, int column, int number) {
            int at = row * width + column;
            if (column >= 0 && column < width && at >= 0 && at < cells.length) {
                cells[at] = number;
            }
        }

        /** The number of the new row; what is beyond its width is left out. */
        int add(int a, int b, int c, int d) {
            if (isFull()) {
                return NONE;
            }
            int row = size;
            size++;
            set(row, 0, a);
            set(row, 1, b);
            set(row, 2, c);
            set(row, 3, d);
            return row;
        }

        /** How many rows there were. */
        int empty() {
            int were = size;
            size = 0;
            return were;
        }

        void dropFirst() {
            for (int at = 0; at < cells.length; at++) {
                int next = at + width;
                if (next >= 0 && next < cells.length) {
                    cells[at] = cells[next];
                }
            }
            size = Math.max(0, size - 1);
        }

        void copy(Rows other) {
            if (other == null) {
                return;
            }
            for (int at = 0; at < cells.length && at < other.cells.length; at++) {
                cells[at] = other.cells[at];
            }
            size = Math.min(other.size, limit);
        }

        long mixedInto(long h) {
            long mixed = h;
            for (int row = 0; row < size; row++) {
                for (int column = 0; column < width; column++) {
                    mixed = 31 * mixed + get(row, column);
                }
            }
            return mixed;
        }
    }

    /** How loud the kinds of sayings are, and what the kinds of listeners hear. */
    private static final class Kinds {
        static int loudness(int kind, int l, int m) {
            int less = l - m / 4;
            int plain = less > 0 ? less : 0;
            int whisper = (plain + 1) / 2;
            int shout = m <= 2 ? plain + 4 : plain;
            switch (kind) {
                case 1:
                    return whisper;
                case 2:
                    return shout;
                case 3:
                    return m >= 20 ? whisper + 3 : whisper;
                case 4:
                    return m % 5 == 0 ? plain : 0;
                case 5:
                    return m % 2 == 0 ? shout : 0;
                default:
                    return plain;
            }
        }

        static boolean hears(int kind, int x, int y) {
            return heard(kind, x, y) >= 1;
        }

        /** This may fall below 0: the document stops only loudness at 0. */
        private static int heard(int kind, int x, int y) {
            int plain = x - y / 4;
            int cotton = plain - 3;
            int more = x >= 1 ? 2 : 0;
            int young = plain + more;
            switch (kind) {
                case 1:
                    return cotton;
                case 2:
                    return young;
                case 3:
                    return y > 12 ? cotton + 2 : cotton;
                case 4:
                    return young > 4 ? 4 : young;
                case 5:
                    return x - y / 2 / 4 + more;
                default:
                    return plain;
            }
        }
    }

    /** Rooms, sayings, listeners, and all that an image keeps of them. */
    private static final class House {
        /** Columns of a row of what may be undone; the minute is the first. */
        private static final int PAST_ROOMS = 1;
        private static final int PAST_PLACE = PAST_ROOMS + ROOMS;
        private static final int PAST_KNOWS = PAST_PLACE + MOST_LISTENERS;
        private static final int PAST_WIDTH = PAST_KNOWS + MOST_LISTENERS;

        int minute;
        final Rows sayings;
        final Rows listeners;
        /** By room the minute of its stripping, plus 1: so 0 is a room not stripped. */
        final Rows stripped;
        final Rows told;
        final Rows notes;
        final Rows marks;
        final Rows past;

        House() {
            sayings = new Rows(MOST_SAYINGS, 3);
            listeners = new Rows(MOST_LISTENERS, 3);
            stripped = new Rows(ROOMS, 1);
            told = new Rows(MOST_TOLD, 3);
            notes = new Rows(MOST_CLUES, 4);
            marks = new Rows(MOST_CLUES, 4);
            past = new Rows(MOST_UNDONE, PAST_WIDTH);
        }

        void reset() {
            minute = 0;
            sayings.empty();
            listeners.empty();
            for (int r = 0; r < ROOMS; r++) {
                paper(r);
            }
            told.empty();
            notes.empty();
            marks.empty();
            past.empty();
        }

        void copy(House other) {
            if (other == null) {
                return;
            }
            minute = other.minute;
            sayings.copy(other.sayings);
            listeners.copy(other.listeners);
            stripped.copy(other.stripped);
            told.copy(other.told);
            notes.copy(other.notes);
            marks.copy(other.marks);
            past.copy(other.past);
        }

        int addSaying(int kind, int r, int l) {
            past.empty();
            return sayings.add(kind, r, l, 0);
        }

        int addListener(int kind, int r) {
            past.empty();
            return listeners.add(kind, r, 0, 0);
        }

        void strip(int r) {
            stripped.set(r, 0, minute + 1);
        }

        void paper(int r) {
            stripped.set(r, 0, 0);
        }

        boolean isStripped(int r) {
            return stripped.get(r, 0) > 0;
        }

        int strippedRooms() {
            int many = 0;
            for (int r = 0; r < ROOMS; r++) {
                if (isStripped(r)) {
                    many++;
                }
            }
            return many;
        }

        /** The room's minute in t minutes; NONE: it does not speak then. */
        int roomMinute(int r, int t) {
            int m = minute + t + 1 - stripped.get(r, 0);
            return isStripped(r) && isSpeakingMinute(m) ? m : NONE;
        }

        int loudness(int s, int m) {
            return Kinds.loudness(sayings.get(s, KIND), sayings.get(s, VOLUME), m);
        }

        /** How loud the sayings of a set are together. */
        int loudnessOfSet(int set, int m) {
            int together = 0;
            for (int s = 0; s < sayings.size; s++) {
                if (isIn(set, s)) {
                    together += Kinds.loudness(sayings.get(s, KIND), sayings.get(s, VOLUME), m);
                }
            }
            return together;
        }

        int roomLoudness(int r) {
            int m = roomMinute(r, 0);
            return m == NONE ? 0 : loudnessOfSet(sayingsOfRoom(r), m);
        }

        int sayingsOfRoom(int r) {
            int set = 0;
            for (int s = 0; s < sayings.size; s++) {
                if (sayings.get(s, PLACE) == r) {
                    set |= 1 << s;
                }
            }
            return set;
        }

        /** What a listener would hear in a room in its minute m (NONE: it does not speak). */
        int heardIn(int i, int r, int m) {
            if (m == NONE) {
                return 0;
            }
            int set = sayingsOfRoom(r);
            int together = loudnessOfSet(set, m);
            int kind = listeners.get(i, KIND);
            int heard = 0;
            for (int s = 0; s < sayings.size; s++) {
                int x = loudness(s, m);
                if (isIn(set, s) && Kinds.hears(kind, x, together - x)) {
                    heard |= 1 << s;
                }
            }
            return heard;
        }

        int heardNow(int i) {
            int r = listeners.get(i, PLACE);
            return heardIn(i, r, roomMinute(r, 0));
        }

        void passMinutes(int n, int last) {
            for (int k = 0; k < n && minute < last; k++) {
                for (int i = 0; i < listeners.size; i++) {
                    int r = listeners.get(i, PLACE);
                    int heard = heardIn(i, r, roomMinute(r, 0));
                    listeners.set(i, KNOWS, listeners.get(i, KNOWS) | heard);
                }
                minute++;
            }
        }

        int knownByAny() {
            int known = 0;
            for (int i = 0; i < listeners.size; i++) {
                known |= listeners.get(i, KNOWS);
            }
            return Integer.bitCount(known);
        }

        void remember() {
            if (past.isFull()) {
                past.dropFirst();
            }
            int row = past.add(minute, 0, 0, 0);
            for (int r = 0; r < ROOMS; r++) {
                past.set(row, PAST_ROOMS + r, stripped.get(r, 0));
            }
            for (int i = 0; i < MOST_LISTENERS; i++) {
                past.set(row, PAST_PLACE + i, listeners.get(i, PLACE));
                past.set(row, PAST_KNOWS + i, listeners.get(i, KNOWS));
            }
        }

        void recall() {
            if (past.size < 1) {
                return;
            }
            past.size--;
            int row = past.size;
            minute = past.get(row, 0);
            for (int r = 0; r < ROOMS; r++) {
                stripped.set(r, 0, past.get(row, PAST_ROOMS + r));
            }
            for (int i = 0; i < MOST_LISTENERS; i++) {
                listeners.set(i, PLACE, past.get(row, PAST_PLACE + i));
                listeners.set(i, KNOWS, past.get(row, PAST_KNOWS + i));
            }
        }
    }

    /** Where and how long to listen. */
    private static final class Plans {
        private static final int FARTHEST = 40;
        /** No minute that is only thought of comes near this one. */
        private static final int BEYOND = 1000000;
        private static final long TIMES = 1103515245L;
        private static final long MORE = 12345L;
        private static final long OVER = 2147483648L;

        /** By brother and room, what a call looks at again and again. */
        private final Rows byRoom;

        Plans() {
            byRoom = new Rows(2, ROOMS);
        }

        static int firstHearing(House h, int i, int s) {
            int r = h.listeners.get(i, PLACE);
            for (int t = 0; t <= FARTHEST; t++) {
                if (isIn(h.heardIn(i, r, h.roomMinute(r, t)), s)) {
                    return t;
                }
            }
            return NONE;
        }

        static int stayIn(House h, int i, int all, int none, int r) {
            int knows = h.listeners.get(i, KNOWS);
            int heard = 0;
            for (int n = 0; n <= SPEAKING; n++) {
                if ((heard & none) != 0) {
                    return NONE;
                }
                if (((knows | heard) & all) == all) {
                    return n;
                }
                heard |= h.heardIn(i, r, n < SPEAKING ? n : NONE);
            }
            return NONE;
        }

        static int bestStay(House h, int i, int all, int none) {
            int fewest = SPEAKING + 1;
            int best = NONE;
            for (int r = 0; r < ROOMS; r++) {
                int needed = stayIn(h, i, all, none, r);
                if (needed != NONE && needed < fewest) {
                    fewest = needed;
                    best = r;
                }
            }
            return best == NONE ? NONE : 100 * fewest + best;
        }

        int bestStand(House h, int n, int what) {
            for (int r = 0; r < ROOMS; r++) {
                byRoom.set(0, r, knownBehind(h, 0, r, n));
                byRoom.set(1, r, knownBehind(h, 1, r, n));
            }
            int most = NONE;
            int where = NONE;
            for (int one = 0; one < ROOMS; one++) {
                for (int other = 0; other < ROOMS; other++) {
                    int both = Integer.bitCount(byRoom.get(0, one) | byRoom.get(1, other));
                    if (both > most) {
                        most = both;
                        where = 10 * one + other;
                    }
                }
            }
            return what == 0 ? most : where;
        }

        /** What one knows behind n minutes in a room that is stripped now. */
        private static int knownBehind(House h, int i, int r, int n) {
            int knows = h.listeners.get(i, KNOWS);
            for (int m = 0; m < n; m++) {
                knows |= h.heardIn(i, r, m);
            }
            return knows;
        }

        /** The k-th pair that rests; k = NONE: how many there are. */
        int restingPair(House h, int k) {
            for (int r = 0; r < ROOMS; r++) {
                int m = h.roomMinute(r, 0);
                byRoom.set(0, r, Integer.bitCount(h.heardIn(0, r, m)));
                byRoom.set(1, r, Integer.bitCount(h.heardIn(1, r, m)));
            }
            int many = 0;
            for (int one = 0; one < ROOMS; one++) {
                for (int other = 0; other < ROOMS; other++) {
                    if (wouldRest(0, one, other) && wouldRest(1, other, one)) {
                        if (many == k) {
                            return 10 * one + other;
                        }
                        many++;
                    }
                }
            }
            return k == NONE ? many : NO_SUCH_PAIR;
        }

        private boolean wouldRest(int brother, int here, int there) {
            int gets = gain(brother, here, there);
            for (int r = 0; r < ROOMS; r++) {
                if (gain(brother, r, there) > gets) {
                    return false;
                }
            }
            return true;
        }

        private int gain(int brother, int here, int there) {
            int hears = byRoom.get(brother, here);
            return here == there ? hears - 1 : hears;
        }

        /** This changes the house that it is given, beyond the last minute too. */
        static void workJobs(House h, int seed, int n) {
            long x = seed;
            for (int k = 0; k < n; k++) {
                x = (x * TIMES + MORE) % OVER;
                int i = (int) (x / 65536 % 3);
                int r = (int) (x / 1048576 % 4);
                if (i < h.listeners.size) {
                    h.listeners.set(i, PLACE, r);
                    if (h.roomMinute(r, 0) == NONE) {
                        h.strip(r);
                    }
                }
                h.passMinutes(1, BEYOND);
            }
        }
    }

    /** What fits all that was told, noted and marked, and what to look at next. */
    private static final class Clues {
        private static final int MOST_X = 9;
        private static final int MOST_Y = 60;

        static int setsSaid(House h, int r, int what) {
            int ofRoom = h.sayingsOfRoom(r);
            int many = 0;
            int inAll = ofRoom;
            int inSome = 0;
            for (int set = 0; set < ALL_SETS; set++) {
                if ((set & ofRoom) == set && fitsTold(h, r, set)) {
                    many++;
                    inAll &= set;
                    inSome |= set;
                }
            }
            if (what == 0) {
                return many;
            }
            if (what == 1) {
                return many == 0 ? NONE : inAll;
            }
            return inSome;
        }

        private static boolean fitsTold(House h, int r, int set) {
            for (int t = 0; t < h.told.size; t++) {
                boolean ofRoom = h.told.get(t, 0) == r;
                if (ofRoom && h.loudnessOfSet(set, h.told.get(t, 1)) != h.told.get(t, 2)) {
                    return false;
                }
            }
            return true;
        }

        static int sayingKinds(House h, int s) {
            int fitting = 0;
            for (int kind = 0; kind < KINDS; kind++) {
                if (fitsNotes(h, s, kind)) {
                    fitting |= 1 << kind;
                }
            }
            return fitting;
        }

        private static boolean fitsNotes(House h, int s, int kind) {
            for (int t = 0; t < h.notes.size; t++) {
                int would = Kinds.loudness(kind, h.notes.get(t, 1), h.notes.get(t, 2));
                if (h.notes.get(t, 0) == s && would != h.notes.get(t, 3)) {
                    return false;
                }
            }
            return true;
        }

        static int nextLook(House h, int s) {
            int fitting = sayingKinds(h, s);
            if (fitting == 0) {
                return NONE;
            }
            int l = h.sayings.get(s, VOLUME);
            int fewest = KINDS + 1;
            int best = NONE;
            for (int m = 0; m < SPEAKING; m++) {
                int alike = mostAlike(fitting, l, m);
                if (alike < fewest) {
                    fewest = alike;
                    best = m;
                }
            }
            return best;
        }

        /** How many of the kinds are as loud as one another, at the most. */
        private static int mostAlike(int fitting, int l, int m) {
            int most = 0;
            for (int kind = 0; kind < KINDS; kind++) {
                if (isIn(fitting, kind)) {
                    most = Math.max(most, asLoudAs(kind, fitting, l, m));
                }
            }
            return most;
        }

        private static int asLoudAs(int kind, int fitting, int l, int m) {
            int loudness = Kinds.loudness(kind, l, m);
            int alike = 0;
            for (int other = 0; other < KINDS; other++) {
                if (isIn(fitting, other) && Kinds.loudness(other, l, m) == loudness) {
                    alike++;
                }
            }
            return alike;
        }

        static int listenerKinds(House h, int i) {
            int fitting = 0;
            for (int kind = 0; kind < KINDS; kind++) {
                if (fitsMarks(h, i, kind)) {
                    fitting |= 1 << kind;
                }
            }
            return fitting;
        }

        private static boolean fitsMarks(House h, int i, int kind) {
            for (int t = 0; t < h.marks.size; t++) {
                boolean would = Kinds.hears(kind, h.marks.get(t, 1), h.marks.get(t, 2));
                boolean did = h.marks.get(t, 3) == 1;
                if (h.marks.get(t, 0) == i && would != did) {
                    return false;
                }
            }
            return true;
        }

        static int nextQuestion(House h, int i) {
            int fitting = listenerKinds(h, i);
            if (fitting == 0) {
                return NONE;
            }
            int least = KINDS + 1;
            int best = NONE;
            for (int x = 0; x <= MOST_X; x++) {
                for (int y = 0; y <= MOST_Y; y++) {
                    int part = greaterPart(fitting, x, y);
                    if (part < least) {
                        least = part;
                        best = 100 * x + y;
                    }
                }
            }
            return best;
        }

        private static int greaterPart(int fitting, int x, int y) {
            int hearing = 0;
            for (int kind = 0; kind < KINDS; kind++) {
                if (isIn(fitting, kind) && Kinds.hears(kind, x, y)) {
                    hearing++;
                }
            }
            return Math.max(hearing, Integer.bitCount(fitting) - hearing);
        }
    }

    /** A chance, in lowest terms. */
    private static final class Fraction {
        /** More than the greatest common divisor of two longs can take. */
        private static final int STEPS = 200;

        long above;
        long below;

        Fraction() {
            above = 0;
            below = 1;
        }

        /** The chance that one hears a saying now, each held back by c of 10. */
        void becomeChance(House h, int i, int s, int c) {
            int r = h.listeners.get(i, PLACE);
            int m = h.roomMinute(r, 0);
            if (m == NONE || h.sayings.get(s, PLACE) != r) {
                become(0, 1);
                return;
            }
            int ofRoom = h.sayingsOfRoom(r);
            int many = Integer.bitCount(ofRoom);
            int kind = h.listeners.get(i, KIND);
            int x = h.loudness(s, m);
            long cases = 0;
            for (int set = 0; set < ALL_SETS; set++) {
                boolean may = (set & ofRoom) == set && isIn(set, s);
                if (may && Kinds.hears(kind, x, h.loudnessOfSet(set, m) - x)) {
                    int said = Integer.bitCount(set);
                    cases += power(c, many - said) * power(10 - c, said);
                }
            }
            become(cases, power(10, many));
        }

        private void become(long cases, long all) {
            long divisor = commonDivisor(cases, all);
            if (divisor > 0) {
                above = cases / divisor;
                below = all / divisor;
            }
        }

        private static long commonDivisor(long one, long other) {
            long a = one;
            long b = other;
            for (int step = 0; step < STEPS && b != 0; step++) {
                long left = a % b;
                a = b;
                b = left;
            }
            return a;
        }

        private static long power(int base, int times) {
            long product = 1;
            for (int k = 0; k < times; k++) {
                product *= base;
            }
            return product;
        }
    }

    /** The text, and how the house that it tells is read. */
    private static final class Reader {
        /** The answer for a fault at the first byte. */
        private static final int FAULT = -10;

        private static final int END = 0;
        private static final int WORD = 1;
        private static final int NUMBER = 2;
        private static final int STOP = 3;
        private static final int NO_TOKEN = 4;

        private static final int NO_ITEM = 0;
        private static final int SAY = 1;
        private static final int EAR = 2;
        private static final int STRIP = 3;
        private static final int PAPER = 4;
        private static final int MINUTES = 5;

        final Rows text;
        /** The token looked at: its first byte, the byte behind it, its sort, its number. */
        private int begin;
        private int end;
        private int sort;
        private int value;
        /** The item's kind and room; its last number is still the value. */
        private int kind;
        private int place;

        Reader() {
            text = new Rows(MOST_TEXT, 1);
        }

        /** How many items; -10 less the fault, which is where the token looked at begins. */
        int readInto(House h) {
            h.reset();
            end = 0;
            advance();
            if (!isWord("house") || !readStop()) {
                return FAULT - begin;
            }
            for (int items = 1; items <= MOST_TEXT; items++) {
                advance();
                if (sort == END) {
                    return items;
                }
                int item = itemBegun();
                if (!mayBegin(h, item) || !readNumbers(item) || !readStop()) {
                    return FAULT - begin;
                }
                obey(h, item);
            }
            return FAULT - begin;
        }

        private int itemBegun() {
            if (isWord("say")) {
                return SAY;
            }
            if (isWord("ear")) {
                return EAR;
            }
            if (isWord("strip")) {
                return STRIP;
            }
            if (isWord("paper")) {
                return PAPER;
            }
            return isWord("minutes") ? MINUTES : NO_ITEM;
        }

        private static boolean mayBegin(House h, int item) {
            switch (item) {
                case NO_ITEM:
                    return false;
                case SAY:
                    return !h.sayings.isFull();
                case EAR:
                    return !h.listeners.isFull();
                default:
                    return true;
            }
        }

        private boolean readNumbers(int item) {
            if (item == MINUTES) {
                return readNumber(1, 99);
            }
            if (item == SAY || item == EAR) {
                if (!readNumber(0, KINDS - 1)) {
                    return false;
                }
                kind = value;
            }
            if (!readNumber(0, ROOMS - 1)) {
                return false;
            }
            place = value;
            return item != SAY || readNumber(1, 9);
        }

        private void obey(House h, int item) {
            switch (item) {
                case SAY:
                    h.addSaying(kind, place, value);
                    break;
                case EAR:
                    h.addListener(kind, place);
                    break;
                case STRIP:
                    h.strip(place);
                    break;
                case PAPER:
                    h.paper(place);
                    break;
                default:
                    h.passMinutes(value, LAST_MINUTE);
                    break;
            }
        }

        private boolean readNumber(int least, int most) {
            advance();
            return sort == NUMBER && within(value, least, most);
        }

        private boolean readStop() {
            advance();
            return sort == STOP;
        }

        private boolean isWord(String word) {
            if (sort != WORD || end - begin != word.length()) {
                return false;
            }
            for (int k = 0; k < word.length(); k++) {
                if (text.get(begin + k, 0) != word.charAt(k)) {
                    return false;
                }
            }
            return true;
        }

        private void advance() {
            begin = end;
            while (begin < text.size && text.get(begin, 0) == ' ') {
                begin++;
            }
            end = begin;
            sort = sortAt(begin);
            if (sort == STOP || sort == NO_TOKEN) {
                end++;
                return;
            }
            value = 0;
            while (end < text.size && sortAt(end) == sort) {
                value = 10 * value + text.get(end, 0) - '0';
                end++;
            }
            // a run of three figures or more is no number, whatever it tells
            if (sort == NUMBER && end - begin > 2) {
                sort = NO_TOKEN;
            }
        }

        private int sortAt(int at) {
            if (at >= text.size) {
                return END;
            }
            int c = text.get(at, 0);
            if (c >= 'a' && c <= 'z') {
                return WORD;
            }
            if (c >= '0' && c <= '9') {
                return NUMBER;
            }
            return c == ';' ? STOP : NO_TOKEN;
        }
    }
}
