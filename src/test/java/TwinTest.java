import java.math.BigInteger;
import java.util.ArrayList;
import java.util.List;
import java.util.regex.Matcher;
import java.util.regex.Pattern;

/**
 * Long mixed runs of calls, answered by PaperHears and by a second, slow telling of the document
 * that goes through whole copies of a house. The runs come from a fixed row of numbers.
 */
public final class TwinTest {
    private static final int RUNS = 1500;
    private static final int CALLS = 512;
    private static int wrong = 0;

    public static void main(String[] args) {
        for (int run = 0; run < RUNS && wrong < 20; run++) {
            new Run(run).go();
        }
        System.out.println(wrong == 0 ? "all runs agree" : wrong + " answers do not agree");
        if (wrong != 0) {
            System.exit(1);
        }
    }

    /** What is told of one house; copied whole for undoing, images and trying out. */
    static final class State {
        int minute = 0;
        Integer[] stripped = new Integer[4];
        List<int[]> sayings = new ArrayList<>();
        List<int[]> ears = new ArrayList<>();
        List<int[]> told = new ArrayList<>();
        List<int[]> notes = new ArrayList<>();
        List<int[]> marks = new ArrayList<>();
        List<State> past = new ArrayList<>();

        State copy() {
            State c = new State();
            c.minute = minute;
            c.stripped = stripped.clone();
            copyRows(sayings, c.sayings);
            copyRows(ears, c.ears);
            copyRows(told, c.told);
            copyRows(notes, c.notes);
            copyRows(marks, c.marks);
            c.past.addAll(past);
            return c;
        }

        private static void copyRows(List<int[]> a, List<int[]> b) {
            for (int[] row : a) {
                b.add(row.clone());
            }
        }

        int m(int r) {
            if (stripped[r] == null || minute - stripped[r] >= 30) {
                return -1;
            }
            return minute - stripped[r];
        }

        int loudness(int s, int m) {
            return TwinTest.loudness(sayings.get(s)[0], sayings.get(s)[2], m);
        }

        int roomLoudness(int r) {
            int sum = 0;
            for (int s = 0; s < sayings.size() && m(r) >= 0; s++) {
                sum += sayings.get(s)[1] == r ? loudness(s, m(r)) : 0;
            }
            return sum;
        }

        boolean hearsNow(int i, int s) {
            int r = ears.get(i)[1];
            if (m(r) < 0 || sayings.get(s)[1] != r) {
                return false;
            }
            int x = loudness(s, m(r));
            return heard(ears.get(i)[0], x, roomLoudness(r) - x) >= 1;
        }

        int heardNow(int i) {
            int bits = 0;
            for (int s = 0; s < sayings.size(); s++) {
                bits |= hearsNow(i, s) ? 1 << s : 0;
            }
            return bits;
        }

        void step() {
            for (int i = 0; i < ears.size(); i++) {
                ears.get(i)[2] |= heardNow(i);
            }
            minute++;
        }

        int known() {
            int bits = 0;
            for (int[] e : ears) {
                bits |= e[2];
            }
            return Integer.bitCount(bits);
        }

        void keepPast() {
            State c = copy();
            c.past.clear();
            past.add(c);
            if (past.size() > 8) {
                past.remove(0);
            }
        }
    }

    static int loudness(int kind, int l, int m) {
        int plain = Math.max(0, l - m / 4);
        switch (kind) {
            case 0: return plain;
            case 1: return plain / 2 + plain % 2;
            case 2: return plain + (m < 3 ? 4 : 0);
            case 3: return loudness(1, l, m) + (m > 19 ? 3 : 0);
            case 4: return m == 0 || m == 5 || m == 10 || m == 15 || m == 20 || m == 25 ? plain : 0;
            default: return (m & 1) == 0 ? loudness(2, l, m) : 0;
        }
    }

    static int heard(int kind, int x, int y) {
        switch (kind) {
            case 0: return x - y / 4;
            case 1: return heard(0, x, y) - 3;
            case 2: return heard(0, x, y) + (x > 0 ? 2 : 0);
            case 3: return heard(1, x, y) + (y >= 13 ? 2 : 0);
            case 4: return Math.min(heard(2, x, y), 4);
            default: return heard(2, x, y / 2);
        }
    }

    /** The second telling. */
    static final class Twin {
        State now = new State();
        State[] images = new State[2];
        StringBuilder text = new StringBuilder();
        BigInteger above = BigInteger.ZERO;
        BigInteger below = BigInteger.ONE;
        int[] refused = new int[3];

        int bad() { refused[0]++; return -2; }
        int no() { refused[1]++; return -3; }
        int full() { refused[2]++; return -4; }
        boolean out(int x, int a, int b) { return x < a || x > b; }
        boolean noSaying(int s) { return out(s, 0, now.sayings.size() - 1); }
        boolean noEar(int i) { return out(i, 0, now.ears.size() - 1); }
        boolean noSet(int set) { return out(set, 0, (1 << now.sayings.size()) - 1); }

        int house() {
            int n = now.sayings.size();
            now = new State();
            return n;
        }

        int say(int kind, int r, int l) {
            if (out(kind, 0, 5) || out(r, 0, 3) || out(l, 1, 9)) return bad();
            if (now.sayings.size() == 8) return full();
            now.sayings.add(new int[] {kind, r, l});
            now.past.clear();
            return now.sayings.size() - 1;
        }

        int ear(int kind) {
            if (out(kind, 0, 5)) return bad();
            if (now.ears.size() == 3) return full();
            now.ears.add(new int[] {kind, 0, 0});
            now.past.clear();
            return now.ears.size() - 1;
        }

        int type(int c) {
            if (out(c, 0, 127)) return bad();
            if (text.length() == 150) return full();
            text.append((char) c);
            return text.length();
        }

        int clear() {
            int n = text.length();
            text.setLength(0);
            return n;
        }

        int read() {
            State s = new State();
            Matcher t = Pattern.compile("[a-z]+|[0-9]+|[^ ]", Pattern.DOTALL).matcher(text);
            List<String> item = new ArrayList<>();
            int items = 0;
            while (t.find()) {
                String token = t.group();
                if (!fits(s, item, token, items)) {
                    return -10 - t.start();
                }
                if (token.equals(";")) {
                    obey(s, item);
                    item.clear();
                    items++;
                } else {
                    item.add(token);
                }
            }
            if (items == 0 || !item.isEmpty()) {
                return -10 - text.length();
            }
            now = s;
            return items;
        }

        boolean fits(State s, List<String> item, String token, int items) {
            if (item.isEmpty()) {
                switch (token) {
                    case "house": return items == 0;
                    case "say": return items > 0 && s.sayings.size() < 8;
                    case "ear": return items > 0 && s.ears.size() < 3;
                    case "strip": case "paper": case "minutes": return items > 0;
                    default: return false;
                }
            }
            String[] bounds;
            switch (item.get(0)) {
                case "house": bounds = new String[] {}; break;
                case "say": bounds = new String[] {"0 5", "0 3", "1 9"}; break;
                case "ear": bounds = new String[] {"0 5", "0 3"}; break;
                case "minutes": bounds = new String[] {"1 99"}; break;
                default: bounds = new String[] {"0 3"}; break;
            }
            int k = item.size() - 1;
            if (k == bounds.length) {
                return token.equals(";");
            }
            String[] b = bounds[k].split(" ");
            return token.matches("[0-9][0-9]?")
                && !out(Integer.parseInt(token), Integer.parseInt(b[0]), Integer.parseInt(b[1]));
        }

        void obey(State s, List<String> item) {
            int[] n = new int[4];
            for (int k = 1; k < item.size(); k++) {
                n[k] = Integer.parseInt(item.get(k));
            }
            switch (item.get(0)) {
                case "say": s.sayings.add(new int[] {n[1], n[2], n[3]}); break;
                case "ear": s.ears.add(new int[] {n[1], n[2], 0}); break;
                case "strip": s.stripped[n[1]] = s.minute; break;
                case "paper": s.stripped[n[1]] = null; break;
                case "minutes":
                    for (int k = 0; k < n[1]; k++) {
                        s.step();
                    }
                    break;
                default: break;
            }
        }

        int strips(int r) {
            if (out(r, 0, 3)) return bad();
            now.keepPast();
            now.stripped[r] = now.minute;
            return now.roomLoudness(r);
        }

        int papers(int r) {
            if (out(r, 0, 3)) return bad();
            if (now.stripped[r] == null) return no();
            now.keepPast();
            now.stripped[r] = null;
            return 1;
        }

        int goes(int i, int r) {
            if (noEar(i) || out(r, 0, 3)) return bad();
            int was = now.ears.get(i)[1];
            if (was == r) return no();
            now.keepPast();
            now.ears.get(i)[1] = r;
            return was;
        }

        int minutes(int n) {
            if (out(n, 1, 99)) return bad();
            now.keepPast();
            for (int k = 0; k < n; k++) {
                if (now.minute < 9999) {
                    now.step();
                }
            }
            return now.known();
        }

        int undo() {
            if (now.past.isEmpty()) return no();
            State was = now.past.remove(now.past.size() - 1);
            now.minute = was.minute;
            now.stripped = was.stripped.clone();
            for (int i = 0; i < now.ears.size(); i++) {
                now.ears.set(i, was.ears.get(i).clone());
            }
            return now.minute;
        }

        int of(int s, int what) {
            return noSaying(s) || out(what, 0, 2) ? bad() : now.sayings.get(s)[what];
        }

        int about(int i, int what) {
            if (noEar(i) || out(what, 0, 3)) return bad();
            return what == 3 ? now.heardNow(i) : now.ears.get(i)[what];
        }

        int room(int r, int what) {
            if (out(r, 0, 3) || out(what, 0, 1)) return bad();
            return what == 0 ? now.m(r) : now.roomLoudness(r);
        }

        int loud(int s, int m) {
            return noSaying(s) || out(m, 0, 29) ? bad() : now.loudness(s, m);
        }

        int first(int i, int s) {
            if (noEar(i) || noSaying(s)) return bad();
            State c = now.copy();
            for (int t = 0; t <= 40; t++) {
                if (c.hearsNow(i, s)) return t;
                c.step();
            }
            return -1;
        }

        int stay(int i, int all, int none, int r) {
            if (noEar(i) || noSet(all) || noSet(none) || (all & none) != 0 || out(r, -1, 3)) return bad();
            if (r >= 0) return stayIn(i, all, none, r);
            int best = -1;
            for (int q = 3; q >= 0; q--) {
                int n = stayIn(i, all, none, q);
                if (n >= 0 && (best < 0 || 100 * n + q < best)) {
                    best = 100 * n + q;
                }
            }
            return best;
        }

        int stayIn(int i, int all, int none, int r) {
            State c = now.copy();
            c.stripped[r] = c.minute;
            c.ears.get(i)[1] = r;
            int heard = 0;
            int least = -1;
            for (int n = 0; n <= 30; n++) {
                boolean well = (c.ears.get(i)[2] & all) == all && (heard & none) == 0;
                if (well && least < 0) {
                    least = n;
                }
                heard |= c.heardNow(i);
                c.step();
            }
            return least;
        }

        int stand(int n, int what) {
            if (out(n, 1, 30) || out(what, 0, 1)) return bad();
            if (now.ears.size() < 2) return no();
            int most = -1;
            int where = -1;
            for (int pair = 0; pair < 16; pair++) {
                State c = now.copy();
                while (c.ears.size() > 2) {
                    c.ears.remove(2);
                }
                for (int r = 0; r < 4; r++) {
                    c.stripped[r] = c.minute;
                }
                c.ears.get(0)[1] = pair / 4;
                c.ears.get(1)[1] = pair % 4;
                for (int k = 0; k < n; k++) {
                    c.step();
                }
                if (c.known() > most) {
                    most = c.known();
                    where = 10 * (pair / 4) + pair % 4;
                }
            }
            return what == 0 ? most : where;
        }

        int told(int r, int m, int x) {
            if (out(r, 0, 3) || out(m, 0, 29) || out(x, 0, 99)) return bad();
            if (now.told.size() == 5) return full();
            now.told.add(new int[] {r, m, x});
            return now.told.size();
        }

        int said(int r, int what) {
            if (out(r, 0, 3) || out(what, 0, 2)) return bad();
            List<Integer> sets = new ArrayList<>();
            for (int set = 0; set < 1 << now.sayings.size(); set++) {
                boolean well = true;
                for (int s = 0; s < now.sayings.size(); s++) {
                    well &= (set >> s & 1) == 0 || now.sayings.get(s)[1] == r;
                }
                for (int[] t : now.told) {
                    int sum = 0;
                    for (int s = 0; s < now.sayings.size(); s++) {
                        sum += (set >> s & 1) * now.loudness(s, t[1]);
                    }
                    well &= t[0] != r || sum == t[2];
                }
                if (well) {
                    sets.add(set);
                }
            }
            int all = -1;
            int some = 0;
            for (int set : sets) {
                all &= set;
                some |= set;
            }
            return what == 0 ? sets.size() : what == 1 ? all : some;
        }

        int note(int s, int l, int m, int x) {
            if (noSaying(s) || out(l, 1, 9) || out(m, 0, 29) || out(x, 0, 20)) return bad();
            if (now.notes.size() == 6) return full();
            now.notes.add(new int[] {s, l, m, x});
            return now.notes.size();
        }

        int mark(int i, int x, int y, int heard) {
            if (noEar(i) || out(x, 0, 20) || out(y, 0, 99) || out(heard, 0, 1)) return bad();
            if (now.marks.size() == 6) return full();
            now.marks.add(new int[] {i, x, y, heard});
            return now.marks.size();
        }

        int forget(int what) {
            if (out(what, 0, 2)) return bad();
            List<int[]> rows = what == 0 ? now.told : what == 1 ? now.notes : now.marks;
            int n = rows.size();
            rows.clear();
            return n;
        }

        int is(int s) {
            if (noSaying(s)) return bad();
            int bits = 63;
            for (int[] n : now.notes) {
                for (int kind = 0; kind < 6 && n[0] == s; kind++) {
                    if (loudness(kind, n[1], n[2]) != n[3]) {
                        bits &= ~(1 << kind);
                    }
                }
            }
            return bits;
        }

        int look(int s) {
            if (noSaying(s)) return bad();
            int kinds = is(s);
            if (kinds == 0) return -1;
            int best = -1;
            int fewest = 99;
            for (int m = 0; m < 30; m++) {
                int[] many = new int[20];
                int most = 0;
                for (int kind = 0; kind < 6; kind++) {
                    if ((kinds >> kind & 1) == 1) {
                        most = Math.max(most, ++many[loudness(kind, now.sayings.get(s)[2], m)]);
                    }
                }
                if (most < fewest) {
                    fewest = most;
                    best = m;
                }
            }
            return best;
        }

        int kinds(int i) {
            if (noEar(i)) return bad();
            int bits = 63;
            for (int[] n : now.marks) {
                for (int kind = 0; kind < 6 && n[0] == i; kind++) {
                    if ((heard(kind, n[1], n[2]) > 0 ? 1 : 0) != n[3]) {
                        bits &= ~(1 << kind);
                    }
                }
            }
            return bits;
        }

        int ask(int i) {
            if (noEar(i)) return bad();
            int kinds = kinds(i);
            if (kinds == 0) return -1;
            int best = -1;
            int least = 99;
            for (int xy = 0; xy <= 960; xy++) {
                int[] parts = new int[2];
                for (int kind = 0; kind < 6 && xy % 100 <= 60; kind++) {
                    if ((kinds >> kind & 1) == 1) {
                        parts[heard(kind, xy / 100, xy % 100) > 0 ? 1 : 0]++;
                    }
                }
                int greater = Math.max(parts[0], parts[1]);
                if (xy % 100 <= 60 && greater < least) {
                    least = greater;
                    best = xy;
                }
            }
            return best;
        }

        int gets(int i, int here, int there) {
            State c = now.copy();
            c.ears.get(i)[1] = here;
            return Integer.bitCount(c.heardNow(i)) - (here == there ? 1 : 0);
        }

        int brothers(int k) {
            if (k < -1) {
                bad();
                return -10;
            }
            if (now.ears.size() < 2) return no();
            List<Integer> pairs = new ArrayList<>();
            for (int i = 0; i < 4; i++) {
                for (int j = 0; j < 4; j++) {
                    boolean rests = true;
                    for (int other = 0; other < 4; other++) {
                        rests &= gets(0, other, j) <= gets(0, i, j);
                        rests &= gets(1, other, i) <= gets(1, j, i);
                    }
                    if (rests) {
                        pairs.add(10 * i + j);
                    }
                }
            }
            return k == -1 ? pairs.size() : k < pairs.size() ? pairs.get(k) : -5;
        }

        int holds(int i, int s, int c) {
            if (noEar(i) || noSaying(s) || out(c, 0, 10)) return bad();
            int r = now.ears.get(i)[1];
            above = BigInteger.ZERO;
            below = BigInteger.ONE;
            if (now.m(r) >= 0 && now.sayings.get(s)[1] == r) {
                int n = 0;
                for (int[] row : now.sayings) {
                    n += row[1] == r ? 1 : 0;
                }
                above = cases(i, s, c, 0, 0, false);
                below = BigInteger.TEN.pow(n);
                BigInteger g = above.gcd(below);
                above = above.divide(g);
                below = below.divide(g);
            }
            return 1;
        }

        /** Cases of what comes from the saying q on, so loud the others together already. */
        BigInteger cases(int i, int s, int c, int q, int together, boolean is) {
            int r = now.ears.get(i)[1];
            if (q == now.sayings.size()) {
                boolean hears = is && heard(now.ears.get(i)[0], now.loudness(s, now.m(r)), together) > 0;
                return hears ? BigInteger.ONE : BigInteger.ZERO;
            }
            if (now.sayings.get(q)[1] != r) {
                return cases(i, s, c, q + 1, together, is);
            }
            int more = q == s ? 0 : now.loudness(q, now.m(r));
            BigInteger held = cases(i, s, c, q + 1, together, is);
            BigInteger said = cases(i, s, c, q + 1, together + more, is || q == s);
            return held.multiply(BigInteger.valueOf(c)).add(said.multiply(BigInteger.valueOf(10 - c)));
        }

        int jobs(int seed, int n) {
            if (out(seed, 0, 999999) || out(n, 0, 60)) return bad();
            State c = now.copy();
            BigInteger x = BigInteger.valueOf(seed);
            for (int k = 0; k < n; k++) {
                x = x.multiply(BigInteger.valueOf(1103515245)).add(BigInteger.valueOf(12345));
                x = x.mod(BigInteger.ONE.shiftLeft(31));
                int i = x.intValueExact() / 65536 % 3;
                int r = x.intValueExact() / 1048576 % 4;
                if (i < c.ears.size()) {
                    c.ears.get(i)[1] = r;
                    if (c.m(r) < 0) {
                        c.stripped[r] = c.minute;
                    }
                }
                c.step();
            }
            return c.known();
        }

        long part(int what) {
            return what == 0 ? above.longValueExact() : what == 1 ? below.longValueExact() : bad();
        }

        int image(int i) {
            if (out(i, 0, 1)) return bad();
            images[i] = now.copy();
            return 1;
        }

        int from(int i) {
            if (out(i, 0, 1)) return bad();
            if (images[i] == null) return no();
            now = images[i].copy();
            return 1;
        }

        int status(int what) {
            if (out(what, 0, 2)) {
                bad();
                return -1;
            }
            return refused[what];
        }

        int count(int what) {
            int strippedRooms = 0;
            for (Integer since : now.stripped) {
                strippedRooms += since != null ? 1 : 0;
            }
            int[] counts = {now.sayings.size(), now.ears.size(), now.minute, strippedRooms, now.known(),
                now.told.size(), now.notes.size(), now.marks.size(), now.past.size(), text.length()};
            return out(what, 0, 9) ? bad() : counts[what];
        }

        long digest() {
            List<Long> v = new ArrayList<>();
            for (int what = 0; what < 10; what++) {
                v.add((long) count(what));
            }
            for (int r = 0; r < 4; r++) {
                v.add((long) now.m(r));
            }
            List<List<int[]>> all = List.of(now.sayings, now.ears, now.told, now.notes, now.marks);
            for (List<int[]> rows : all) {
                for (int[] row : rows) {
                    for (int x : row) {
                        v.add((long) x);
                    }
                }
            }
            v.add(above.longValueExact());
            v.add(below.longValueExact());
            long h = 1583;
            for (long x : v) {
                h = 31 * h + x;
            }
            return h;
        }
    }

    /** One object of each, and the same calls on both. */
    static final class Run {
        private static final String[] PIECES = {
            "house;", "house ;", "say 0 0 5;", "say5 3 9;", "say 2 1 08;", "say 4 2 7 ;", "say 3 0 9;", "say 1 1 6;",
            "ear 0 0;", "ear 2 1;", "ear5 2;", "strip 0;", "strip1;", "strip 2;", "paper 0;", "paper 3;",
            "minutes 1;", "minutes 7;", "minutes 30;", "minutes 99;", "  ", "house", ";", "say", "minutes 0;", "007",
            "ear 6 0;", "say 0 0 10;", "A", "strip 4;", "say 0 4 1;", "minutes 100;", "earx", "{", "/", ":", "`"
        };

        private final int number;
        private final PaperHears x = new PaperHears();
        private final Twin y = new Twin();
        private final int style;
        private long seed;
        private int made = 0;

        Run(int number) {
            this.number = number;
            this.seed = 7919L * number + 1;
            this.style = number % 4;
        }

        private int any(int n) {
            seed = seed * 6364136223846793005L + 1442695040888963407L;
            return (int) ((seed >>> 33) % n);
        }

        /** Mostly from the least to the most, now and then a little or far outside. */
        private int pick(int least, int most) {
            int odd = any(40);
            if (odd == 0) {
                return least - 1;
            }
            if (odd == 1) {
                return most + 1;
            }
            if (odd == 2) {
                int[] far = {Integer.MIN_VALUE, Integer.MAX_VALUE, -1000, 1 << 16, -3};
                return far[any(far.length)];
            }
            return least + any(Math.max(1, most - least + 1));
        }

        private int saying() {
            return pick(0, Math.max(0, y.now.sayings.size() - 1));
        }

        private int listener() {
            return pick(0, Math.max(0, y.now.ears.size() - 1));
        }

        private void due(String call, long got, long want) {
            made++;
            if (got != want && wrong < 20) {
                wrong++;
                System.out.println("run " + number + ", call " + made + ": " + call + " answered " + got + ", due is " + want);
            }
        }

        void go() {
            if (style != 0) {
                for (int k = any(9); k > 0; k--) {
                    oneOfHouse(1);
                }
                for (int k = any(4); k > 0; k--) {
                    oneOfHouse(2);
                }
            }
            // the end of all minutes is too far off to be met by chance
            for (int k = 0; k < 100 && number % 8 == 3; k++) {
                due("minutes(99)", x.minutes(99), y.minutes(99));
            }
            while (made < CALLS - 3) {
                int wrongBefore = wrong;
                int group = any(10);
                if (group == 0) {
                    if (any(style == 1 ? 2 : 5) == 0) {
                        tellText();
                    } else {
                        oneOfHouse(any(style == 2 ? 6 : 12));
                    }
                } else if (group < 4) {
                    oneOfMinutes(any(9));
                } else if (group < 6) {
                    oneOfHearing(any(4));
                } else if (group < 9) {
                    oneOfClues(any(12));
                } else {
                    oneOfWhatThereIs(any(5));
                }
                due("digest()", x.digest(), y.digest());
                if (wrong > wrongBefore) {
                    return;
                }
            }
            for (int what = 0; what < 3; what++) {
                due("status(" + what + ")", x.status(what), y.status(what));
            }
        }

        private void tellText() {
            due("clear()", x.clear(), y.clear());
            StringBuilder t = new StringBuilder(any(8) == 0 ? "" : "house;");
            int pieces = any(12);
            boolean wild = any(3) == 0;
            for (int k = 0; k < pieces; k++) {
                t.append(PIECES[wild ? any(PIECES.length) : 2 + any(18)]);
            }
            if (any(6) == 0 && t.length() > 0) {
                t.setLength(any(t.length()));
            }
            if (any(6) == 0 && t.length() > 0) {
                t.setCharAt(any(t.length()), (char) any(128));
            }
            for (int k = 0; k < t.length() && made < CALLS - 8; k++) {
                due("type(" + (int) t.charAt(k) + ")", x.type(t.charAt(k)), y.type(t.charAt(k)));
            }
            due("read() of " + t, x.read(), y.read());
        }

        private void oneOfHouse(int which) {
            int a = pick(0, 5);
            int b = pick(0, 3);
            int c = pick(1, 9);
            if (which == 0) {
                if (any(4) == 0) {
                    due("house()", x.house(), y.house());
                }
            } else if (which == 2) {
                due("ear(" + a + ")", x.ear(a), y.ear(a));
            } else if (which == 3) {
                int sign = pick(0, 127);
                due("type(" + sign + ")", x.type(sign), y.type(sign));
            } else if (which == 4) {
                due("read()", x.read(), y.read());
            } else {
                due("say(" + a + ", " + b + ", " + c + ")", x.say(a, b, c), y.say(a, b, c));
            }
        }

        private void oneOfMinutes(int which) {
            int r = pick(0, 3);
            int i = listener();
            if (which == 0 || which == 1) {
                due("strips(" + r + ")", x.strips(r), y.strips(r));
            } else if (which == 2) {
                due("papers(" + r + ")", x.papers(r), y.papers(r));
            } else if (which == 3) {
                due("goes(" + i + ", " + r + ")", x.goes(i, r), y.goes(i, r));
            } else if (which == 4) {
                int n = style == 3 ? pick(1, 99) : pick(1, 12);
                due("minutes(" + n + ")", x.minutes(n), y.minutes(n));
            } else if (which == 5) {
                due("undo()", x.undo(), y.undo());
            } else if (which == 6) {
                int s = saying();
                int what = pick(0, 2);
                due("of(" + s + ", " + what + ")", x.of(s, what), y.of(s, what));
            } else if (which == 7) {
                int what = pick(0, 3);
                due("about(" + i + ", " + what + ")", x.about(i, what), y.about(i, what));
            } else {
                int what = pick(0, 1);
                due("room(" + r + ", " + what + ")", x.room(r, what), y.room(r, what));
            }
        }

        private void oneOfHearing(int which) {
            int i = listener();
            int s = saying();
            if (which == 0) {
                int m = pick(0, 29);
                due("loud(" + s + ", " + m + ")", x.loud(s, m), y.loud(s, m));
            } else if (which == 1) {
                due("first(" + i + ", " + s + ")", x.first(i, s), y.first(i, s));
            } else if (which == 2) {
                int full = (1 << y.now.sayings.size()) - 1;
                int all = pick(0, full) & any(256);
                int none = any(10) == 0 ? pick(0, full) : any(256) & any(256) & full & ~all;
                int r = pick(-1, 3);
                due("stay(" + i + ", " + all + ", " + none + ", " + r + ")", x.stay(i, all, none, r), y.stay(i, all, none, r));
            } else {
                int n = pick(1, 30);
                int what = pick(0, 1);
                due("stand(" + n + ", " + what + ")", x.stand(n, what), y.stand(n, what));
            }
        }

        private void oneOfClues(int which) {
            int i = listener();
            int s = saying();
            int r = pick(0, 3);
            if (which == 0) {
                int m = pick(0, 29);
                int loud = any(10) == 0 ? pick(0, 99) : likelyLoudness(r, m);
                due("told(" + r + ", " + m + ", " + loud + ")", x.told(r, m, loud), y.told(r, m, loud));
            } else if (which == 1) {
                int what = pick(0, 2);
                due("said(" + r + ", " + what + ")", x.said(r, what), y.said(r, what));
            } else if (which == 2) {
                int l = pick(1, 9);
                int m = pick(0, 29);
                int loud = any(4) == 0 ? pick(0, 20) : loudness(any(6), l & 15, m & 31);
                due("note(" + s + ", " + l + ", " + m + ", " + loud + ")", x.note(s, l, m, loud), y.note(s, l, m, loud));
            } else if (which == 3) {
                int a = any(3) == 0 ? pick(0, 20) : any(8);
                int b = any(3) == 0 ? pick(0, 99) : any(30);
                int hears = any(4) == 0 ? pick(0, 1) : heard(any(6), a, b) > 0 ? 1 : 0;
                due("mark(" + i + ", " + a + ", " + b + ", " + hears + ")", x.mark(i, a, b, hears), y.mark(i, a, b, hears));
            } else if (which == 4) {
                int what = pick(0, 2);
                if (any(3) == 0) {
                    due("forget(" + what + ")", x.forget(what), y.forget(what));
                }
            } else if (which == 5) {
                due("is(" + s + ")", x.is(s), y.is(s));
            } else if (which == 6) {
                due("look(" + s + ")", x.look(s), y.look(s));
            } else if (which == 7) {
                due("kinds(" + i + ")", x.kinds(i), y.kinds(i));
            } else if (which == 8) {
                due("ask(" + i + ")", x.ask(i), y.ask(i));
            } else if (which == 9) {
                int k = any(3) == 0 ? -1 : pick(0, 15);
                due("brothers(" + k + ")", x.brothers(k), y.brothers(k));
            } else if (which == 10) {
                int c = pick(0, 10);
                due("holds(" + i + ", " + s + ", " + c + ")", x.holds(i, s, c), y.holds(i, s, c));
                due("part(0)", x.part(0), y.part(0));
                due("part(1)", x.part(1), y.part(1));
            } else {
                int n = pick(0, 60);
                int start = any(20) == 0 ? pick(0, 999999) : any(1000000);
                due("jobs(" + start + ", " + n + ")", x.jobs(start, n), y.jobs(start, n));
            }
        }

        /** How loud some set of the room's sayings is, so that said() has something to find. */
        private int likelyLoudness(int r, int m) {
            int sum = 0;
            for (int s = 0; s < y.now.sayings.size(); s++) {
                sum += y.now.sayings.get(s)[1] == r && any(2) == 0 ? y.now.loudness(s, m & 31) : 0;
            }
            return sum;
        }

        private void oneOfWhatThereIs(int which) {
            int i = pick(0, 1);
            if (which == 0) {
                due("part(" + i + ")", x.part(i), y.part(i));
            } else if (which == 1) {
                due("image(" + i + ")", x.image(i), y.image(i));
            } else if (which == 2) {
                due("from(" + i + ")", x.from(i), y.from(i));
            } else if (which == 3) {
                int what = pick(0, 2);
                due("status(" + what + ")", x.status(what), y.status(what));
            } else {
                int what = pick(0, 9);
                due("count(" + what + ")", x.count(what), y.count(what));
            }
        }
    }
}
