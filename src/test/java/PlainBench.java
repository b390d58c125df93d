import java.util.ArrayList;
import java.util.Arrays;
import java.util.HashMap;
import java.util.List;
import java.util.Map;
import java.util.TreeMap;

/**
 * The document once more, word by word and as slow as it likes, to hold BenchSeats against:
 * place by place instead of by bits, by recursion instead of by rows.
 */
final class PlainBench {
    static final int BAD = -1000000001, NO = -1000000002, FULL = -1000000003, NONE = -1000000005,
        NOTHING = -1000000011, KIND = -1000000012, INDEX = -1000000013, SIZE = -1000000014;
    private static final int[] ABOVE = {-1, 0, 0, 1, 2, 0};

    static final class Man implements Cloneable {
        int kind, at = -1, pennies, sat;

        Man twin() {
            Man m = new Man();
            m.kind = kind;
            m.at = at;
            m.pennies = pennies;
            m.sat = sat;
            return m;
        }
    }

    static boolean under(int kind, int wanted) {
        return kind == wanted || ABOVE[kind] >= 0 && under(ABOVE[kind], wanted);
    }

    static int worth(int kind, int sat) {
        switch (kind) {
            case 0: return sat;
            case 1: return worth(0, sat) + 6;
            case 3: return worth(1, sat) * 2;
            case 2: return 99 - sat;
            case 4: return worth(2, sat) - 4;
            default: return 3;
        }
    }

    static final class World {
        int n = 9, ring, wall, till, minute, z = 1;
        List<Man> men = new ArrayList<>();
        int[] cushion = new int[12];
        int price = 1, rule = 0, come = 50, rise = 10;
        List<String> texts = new ArrayList<>();

        World twin() {
            World w = new World();
            w.n = n;
            w.ring = ring;
            w.wall = wall;
            w.till = till;
            w.minute = minute;
            w.z = z;
            for (Man m : men) {
                w.men.add(m.twin());
            }
            w.cushion = cushion.clone();
            w.price = price;
            w.rule = rule;
            w.come = come;
            w.rise = rise;
            w.texts = new ArrayList<>(texts);
            return w;
        }

        int[] takes(Man m, int p) {
            if (!under(m.kind, 1)) {
                return new int[] {p};
            }
            return new int[] {p, ring == 1 ? (p + 1) % n : p + 1};
        }

        /** Who takes a place: a sitter, -1 nobody, -2 a wall that is nobody, -3 a wall that is somebody. */
        int whoAt(int p) {
            if (ring == 1) {
                p = (p % n + n) % n;
            } else if (p < 0 || p >= n) {
                return wall == 1 ? -3 : -2;
            }
            for (int k = 0; k < men.size(); k++) {
                if (men.get(k).at >= 0) {
                    for (int q : takes(men.get(k), men.get(k).at)) {
                        if (q == p) {
                            return k;
                        }
                    }
                }
            }
            return -1;
        }

        static boolean some(int who) {
            return who >= 0 || who == -3;
        }

        boolean may(Man m, int p) {
            if (m.at >= 0) {
                return false;
            }
            int[] t = takes(m, p);
            for (int q : t) {
                if (q < 0 || q >= n || whoAt(q) != -1) {
                    return false;
                }
            }
            if (t.length == 2 && t[0] == t[1]) {
                return false;
            }
            return mayAs(m.kind, whoAt(p - 1), whoAt(p + t.length));
        }

        boolean mayAs(int kind, int a, int b) {
            switch (kind) {
                case 0: return some(a) == some(b);
                case 1: return mayAs(0, a, b);
                case 3: return mayAs(1, a, b) && !some(a) && !some(b);
                case 2: return mayAs(0, a, b) || friend(a) || friend(b);
                case 4: return mayAs(2, a, b) || some(a) || some(b);
                default: return !some(a) && !some(b);
            }
        }

        boolean friend(int who) {
            return who >= 0 && under(men.get(who).kind, 2);
        }

        String last(String key) {
            String found = null;
            for (String t : texts) {
                if (t.trim().startsWith(key)) {
                    found = t;
                }
            }
            return found;
        }

        int pays(int kind, Man m, int p) {
            switch (kind) {
                case 1: return 2 * pays(0, m, p);
                case 3: return pays(1, m, p) + 1;
                case 2: return pays(0, m, p) - 2;
                case 4: return pays(2, m, p) / 2;
                default:
                    String t = last("fare");
                    int v = t == null ? price + cushion[p]
                        : new Law(t).worthWith(Map.of('p', price, 'c', cushion[p], 's', m.sat));
                    return Math.max(-999, Math.min(999, v));
            }
        }

        int sit(Man m, int p) {
            int pay = pays(m.kind, m, p);
            m.at = p;
            m.sat++;
            m.pennies = Math.max(-9999, Math.min(9999, m.pennies - pay));
            till += pay;
            return pay;
        }

        int draw() {
            z = z * 1103515245 + 12345;
            return z >>> 8;
        }

        int minutePasses() {
            int sat = 0;
            if (draw() % 100 < come) {
                Man first = null;
                for (Man m : men) {
                    if (m.at < 0 && first == null) {
                        first = m;
                    }
                }
                if (first != null) {
                    List<Integer> places = new ArrayList<>();
                    for (int p = 0; p < n; p++) {
                        if (may(first, p)) {
                            places.add(p);
                        }
                    }
                    if (!places.isEmpty()) {
                        int chosen = places.get(0);
                        if (rule == 0) {
                            chosen = places.get(draw() % places.size());
                        } else if (rule == 2) {
                            for (int p : places) {
                                chosen = cushion[p] > cushion[chosen] ? p : chosen;
                            }
                        }
                        sit(first, chosen);
                        sat = 1;
                    }
                }
            }
            if (draw() % 100 < rise && !men.isEmpty()) {
                men.get(draw() % men.size()).at = -1;
            }
            minute++;
            return sat;
        }

        int takenSet() {
            int set = 0;
            for (int p = 0; p < n; p++) {
                set += whoAt(p) >= 0 ? 1 << p : 0;
            }
            return set;
        }

        int sitting() {
            int c = 0;
            for (Man m : men) {
                c += m.at >= 0 ? 1 : 0;
            }
            return c;
        }

        boolean shut() {
            for (Man m : men) {
                for (int p = 0; p < n; p++) {
                    if (may(m, p)) {
                        return false;
                    }
                }
            }
            return true;
        }

        List<Integer> ordinaryMoves(int taken) {
            List<Integer> moves = new ArrayList<>();
            for (int p = 0; p < n; p++) {
                if ((taken & 1 << p) == 0 && somebody(taken, p - 1) == somebody(taken, p + 1)) {
                    moves.add(p);
                }
            }
            return moves;
        }

        boolean somebody(int taken, int p) {
            if (ring == 1) {
                p = (p + n) % n;
            } else if (p < 0 || p >= n) {
                return wall == 1;
            }
            return (taken & 1 << p) != 0;
        }

        /** Most, fewest, ways, game for a set of places taken. */
        long[] outlook(int taken, Map<Integer, long[]> known) {
            long[] got = known.get(taken);
            if (got != null) {
                return got;
            }
            List<Integer> moves = ordinaryMoves(taken);
            got = new long[] {0, moves.isEmpty() ? 0 : 99, moves.isEmpty() ? 1 : 0, 0};
            for (int p : moves) {
                long[] next = outlook(taken | 1 << p, known);
                got[0] = Math.max(got[0], next[0] + 1);
                got[1] = Math.min(got[1], next[1] + 1);
                got[2] = (got[2] + next[2]) % 1000000007L;
                got[3] |= 1 - next[3];
            }
            known.put(taken, got);
            return got;
        }

        int mostGain(int taken, int[] soft, Map<Integer, Integer> known) {
            Integer got = known.get(taken);
            if (got == null) {
                got = 0;
                for (int p : ordinaryMoves(taken)) {
                    got = Math.max(got, price + soft[p] + mostGain(taken | 1 << p, soft, known));
                }
                known.put(taken, got);
            }
            return got;
        }
    }

    /** A law read by descending through its grammar over words and signs cut out beforehand. */
    static final class Law {
        private final List<String> words = new ArrayList<>();
        private final List<Integer> starts = new ArrayList<>();
        private final List<Boolean> glued = new ArrayList<>();
        private final int length;
        private int next, parens, nots;
        int fault = -1, key = -1, things;
        private Map<Character, Integer> values = Map.of();

        Law(String s) {
            length = s.length();
            int i = 0;
            boolean wordAhead = false;
            while (i < s.length()) {
                char c = s.charAt(i);
                int j = i + 1;
                boolean letter = c >= 'a' && c <= 'z', digit = c >= '0' && c <= '9';
                while (j < s.length() && (letter && s.charAt(j) >= 'a' && s.charAt(j) <= 'z'
                    || digit && s.charAt(j) >= '0' && s.charAt(j) <= '9')) {
                    j++;
                }
                if (c != ' ') {
                    words.add(s.substring(i, j));
                    starts.add(i);
                    glued.add(wordAhead && (letter || digit));
                }
                wordAhead = letter || digit;
                i = j;
            }
            run();
        }

        int worthWith(Map<Character, Integer> with) {
            values = with;
            next = 0;
            things = 0;
            return run();
        }

        private static final class Stop extends RuntimeException {
            private static final long serialVersionUID = 1;
        }

        private int run() {
            try {
                key = Arrays.asList("fare", "fee", "fine").indexOf(peek());
                if (key < 0) {
                    throw wrong();
                }
                next++;
                int v = or();
                if (next < words.size()) {
                    throw wrong();
                }
                return v;
            } catch (Stop s) {
                return 0;
            }
        }

        private Stop wrong() {
            fault = next < words.size() ? starts.get(next) : length;
            return new Stop();
        }

        private String peek() {
            if (next >= words.size()) {
                return "";
            }
            if (glued.get(next)) {
                throw wrong();
            }
            return words.get(next);
        }

        private int or() {
            int v = and();
            while (peek().equals("|")) {
                next++;
                int w = and();
                v = v != 0 || w != 0 ? 1 : 0;
            }
            return v;
        }

        private int and() {
            int v = test();
            while (peek().equals("&")) {
                next++;
                int w = test();
                v = v != 0 && w != 0 ? 1 : 0;
            }
            return v;
        }

        private int test() {
            int v = sum();
            String s = peek();
            if (s.equals("<") || s.equals("=") || s.equals(">")) {
                next++;
                int w = sum();
                v = (s.equals("<") ? v < w : s.equals("=") ? v == w : v > w) ? 1 : 0;
            }
            return v;
        }

        private int sum() {
            int v = term();
            while (peek().equals("+") || peek().equals("-")) {
                int sign = words.get(next++).equals("+") ? 1 : -1;
                v += sign * term();
            }
            return v;
        }

        private int term() {
            int v = piece();
            while (peek().equals("*") || peek().equals("/")) {
                boolean times = words.get(next++).equals("*");
                int w = piece();
                v = times ? v * w : w == 0 ? 0 : v / w;
            }
            return v;
        }

        private int piece() {
            String s = peek();
            if (s.matches("[0-9]{1,4}")) {
                next++;
                things++;
                return Integer.parseInt(s);
            }
            if (s.matches(key == 0 ? "[pcs]" : key == 1 ? "[tm]" : "[ps]")) {
                next++;
                things++;
                return values.getOrDefault(s.charAt(0), 0);
            }
            if (s.equals("!") && nots < 8) {
                next++;
                nots++;
                int v = piece();
                nots--;
                return v == 0 ? 1 : 0;
            }
            if (s.equals("(") && parens < 8) {
                next++;
                parens++;
                int v = or();
                if (!peek().equals(")")) {
                    throw wrong();
                }
                next++;
                parens--;
                return v;
            }
            throw wrong();
        }
    }

    static final class Row {
        final int sort;
        final Integer[] marks;

        Row(int sort, int n) {
            this.sort = sort;
            marks = new Integer[n];
            Arrays.fill(marks, 0);
        }

        Row twin() {
            Row r = new Row(sort, marks.length);
            System.arraycopy(marks, 0, r.marks, 0, marks.length);
            return r;
        }
    }

    private World w = new World();
    private World image;
    private String tape = "";
    private final Row[] rows = new Row[4];
    private final Object[] slots = new Object[5];
    private final List<Integer> waiting = new ArrayList<>();

    private boolean man(int k) {
        return k >= 0 && k < w.men.size();
    }

    private boolean place(int p) {
        return p >= 0 && p < w.n;
    }

    private static boolean in(int v, int a, int b) {
        return v >= a && v <= b;
    }

    int bench(int n, int ring, int wall) {
        if (!in(n, 1, 12) || !in(ring, 0, 1) || !in(wall, 0, 1)) {
            return BAD;
        }
        int sat = w.sitting();
        w.n = n;
        w.ring = ring;
        w.wall = wall;
        for (Man m : w.men) {
            m.at = -1;
        }
        w.cushion = new int[12];
        return sat;
    }

    int sitter(int kind) {
        if (!in(kind, 0, 5)) {
            return BAD;
        }
        if (w.men.size() == 12) {
            return FULL;
        }
        Man m = new Man();
        m.kind = kind;
        w.men.add(m);
        return w.men.size() - 1;
    }

    int told(int k, int what) {
        if (!man(k) || !in(what, 0, 6)) {
            return BAD;
        }
        Man m = w.men.get(k);
        if (what == 4 || what == 5) {
            int set = 0;
            for (int p = 0; p < w.n; p++) {
                set |= (what == 4 ? w.whoAt(p) == k : w.may(m, p)) ? 1 << p : 0;
            }
            return set;
        }
        return new int[] {m.kind, m.at, m.pennies, m.sat, 0, 0, worth(m.kind, m.sat)}[what];
    }

    int as(int k, int kind) {
        if (!man(k) || !in(kind, 0, 5)) {
            return BAD;
        }
        return under(w.men.get(k).kind, kind) ? w.men.get(k).sat : KIND;
    }

    int turns(int k, int kind) {
        if (!man(k) || !in(kind, 0, 5)) {
            return BAD;
        }
        Man m = w.men.get(k);
        if (m.at >= 0) {
            return NO;
        }
        int was = m.kind;
        m.kind = kind;
        return was;
    }

    int sits(int k, int p) {
        if (!man(k) || !place(p)) {
            return BAD;
        }
        return w.may(w.men.get(k), p) ? w.sit(w.men.get(k), p) : NO;
    }

    int rises(int k) {
        if (!man(k)) {
            return BAD;
        }
        int was = w.men.get(k).at;
        w.men.get(k).at = -1;
        return was < 0 ? NO : was;
    }

    int who(int p) {
        return !place(p) ? BAD : w.whoAt(p) < 0 ? NONE : w.whoAt(p);
    }

    int cushion(int p, int v) {
        if (!place(p) || !in(v, 0, 99)) {
            return BAD;
        }
        int was = w.cushion[p];
        w.cushion[p] = v;
        return was;
    }

    int rule(int what, int v) {
        int was;
        if (what == 0 && in(v, 0, 99)) {
            was = w.price;
            w.price = v;
        } else if (what == 1 && in(v, 0, 2)) {
            was = w.rule;
            w.rule = v;
        } else if (what == 2 && in(v, 0, 100)) {
            was = w.come;
            w.come = v;
        } else if (what == 3 && in(v, 0, 100)) {
            was = w.rise;
            w.rise = v;
        } else {
            was = BAD;
        }
        return was;
    }

    int deal(int n) {
        if (!in(n, 1, 12)) {
            return BAD;
        }
        int came = 0;
        while (came < n && w.men.size() < 12) {
            sitter(w.draw() % 6);
            came++;
        }
        return came;
    }

    int seed(int v) {
        int was = w.z;
        w.z = v;
        return was;
    }

    int minutes(int n) {
        if (!in(n, 1, 100)) {
            return BAD;
        }
        int sat = 0;
        for (int i = 0; i < n && w.minute < 9999; i++) {
            sat += w.minutePasses();
        }
        return sat;
    }

    int inn(int what) {
        int stand = 0;
        for (int k = 0; k < w.men.size(); k++) {
            stand |= w.men.get(k).at < 0 ? 1 << k : 0;
        }
        return in(what, 0, 3) ? new int[] {w.takenSet(), w.till, w.sitting(), stand}[what] : BAD;
    }

    int goes(int what) {
        return in(what, 0, 2) ? (int) w.outlook(w.takenSet(), new HashMap<>())[what] : BAD;
    }

    int game(int what) {
        if (!in(what, 0, 1)) {
            return BAD;
        }
        Map<Integer, long[]> known = new HashMap<>();
        int taken = w.takenSet();
        if (what == 0) {
            return (int) w.outlook(taken, known)[3];
        }
        int set = 0;
        for (int p : w.ordinaryMoves(taken)) {
            set |= w.outlook(taken | 1 << p, known)[3] == 0 ? 1 << p : 0;
        }
        return set;
    }

    int worthy(int what) {
        if (!in(what, 0, 1)) {
            return BAD;
        }
        int best = NONE, most = NONE, taken = w.takenSet();
        for (int p = 0; p < w.n; p++) {
            if ((taken & 1 << p) == 0) {
                int[] soft = w.cushion.clone();
                soft[p] += 50;
                int gain = w.mostGain(taken, soft, new HashMap<>());
                if (best == NONE || gain > most) {
                    best = p;
                    most = gain;
                }
            }
        }
        return what == 0 ? best : most;
    }

    int behind(int n, int what) {
        if (!in(n, 0, 100) || what < 0 || what >= 3 && !man(what - 3)) {
            return BAD;
        }
        World later = w.twin();
        for (int i = 0; i < n; i++) {
            later.minutePasses();
        }
        return what == 0 ? later.takenSet() : what == 1 ? later.till
            : what == 2 ? later.sitting() : later.men.get(what - 3).at;
    }

    int fullUp() {
        World later = w.twin();
        for (int n = 0; n <= 200; n++) {
            if (later.shut()) {
                return n;
            }
            later.minutePasses();
        }
        return NONE;
    }

    int rose(int n, int what) {
        if (!in(n, 1, 60) || !in(what, 0, 1)) {
            return BAD;
        }
        TreeMap<Integer, Integer> firstByTill = new TreeMap<>();
        for (int k = w.men.size() - 1; k >= 0; k--) {
            if (w.men.get(k).at >= 0) {
                World later = w.twin();
                later.men.get(k).at = -1;
                for (int i = 0; i < n; i++) {
                    later.minutePasses();
                }
                firstByTill.put(later.till, k);
            }
        }
        if (firstByTill.isEmpty()) {
            return NONE;
        }
        return what == 0 ? firstByTill.lastEntry().getValue() : firstByTill.lastKey();
    }

    private int lacks(int s) {
        return !in(s, 0, 3) ? BAD : rows[s] == null ? NOTHING : 0;
    }

    int book(int s) {
        if (lacks(s) != 0) {
            return lacks(s);
        }
        int taken = w.takenSet(), done = 0;
        for (Integer v : rows[s].marks) {
            if (v != null) {
                if (!w.ordinaryMoves(taken).contains(v)) {
                    break;
                }
                taken |= 1 << v;
                done++;
            }
        }
        return done;
    }

    int fee() {
        String t = w.last("fee");
        return t == null ? w.till : new Law(t).worthWith(Map.of('t', w.till, 'm', w.minute));
    }

    int fine(int k) {
        if (!man(k)) {
            return BAD;
        }
        String t = w.last("fine");
        Man m = w.men.get(k);
        return t == null ? m.sat : new Law(t).worthWith(Map.of('p', m.pennies, 's', m.sat));
    }

    int feed(int a, int b, int c) {
        if (tape.length() > 84) {
            return FULL;
        }
        for (int v : new int[] {a, b, c}) {
            tape += "" + (char) (v >>> 24) + (char) (v >>> 16 & 255) + (char) (v >>> 8 & 255) + (char) (v & 255);
        }
        return tape.length();
    }

    int trim(int n) {
        if (!in(n, 0, tape.length())) {
            return BAD;
        }
        tape = tape.substring(0, n);
        return n;
    }

    int text() {
        Law law = new Law(tape);
        String read = tape;
        tape = "";
        if (law.fault >= 0) {
            return -100 - law.fault;
        }
        if (w.texts.size() == 14) {
            return FULL;
        }
        w.texts.add(read);
        return w.texts.size() - 1;
    }

    int textTold(int t, int what) {
        if (!in(t, 0, w.texts.size() - 1) || !in(what, 0, 1)) {
            return BAD;
        }
        Law law = new Law(w.texts.get(t));
        return what == 0 ? law.key : law.things;
    }

    int why(int key) {
        if (!in(key, 0, 2)) {
            return BAD;
        }
        int found = NONE;
        for (int i = 0; i < w.texts.size(); i++) {
            found = new Law(w.texts.get(i)).key == key ? i : found;
        }
        return found;
    }

    int sheet(int s, int sort, int n) {
        if (!in(s, 0, 3) || !in(sort, -1, 1) || sort >= 0 && n > 24) {
            return BAD;
        }
        if (sort >= 0 && n < 0) {
            return SIZE;
        }
        rows[s] = sort < 0 ? null : new Row(sort, n);
        return sort < 0 ? 0 : n;
    }

    int mark(int s, int p, int v) {
        if (lacks(s) != 0) {
            return lacks(s);
        }
        if (!in(p, 0, rows[s].marks.length - 1)) {
            return INDEX;
        }
        if (rows[s].sort == 0) {
            if (v == NONE) {
                return KIND;
            }
            rows[s].marks[p] = (int) (short) v;
        } else {
            if (v != NONE && !in(v, -99999, 99999)) {
                return BAD;
            }
            rows[s].marks[p] = v == NONE ? null : (Integer) v;
        }
        return 1;
    }

    int pour(int s) {
        if (lacks(s) != 0) {
            return lacks(s);
        }
        int[] old = w.cushion.clone();
        int other = 0;
        for (int p = 0; p < w.n; p++) {
            if (p < rows[s].marks.length && rows[s].marks[p] != null) {
                w.cushion[p] = Math.max(0, Math.min(99, rows[s].marks[p]));
            }
            other += old[p] != w.cushion[p] ? 1 : 0;
        }
        return other;
    }

    int reads(int s) {
        if (lacks(s) != 0) {
            return lacks(s);
        }
        for (int i = 0; i < rows[s].marks.length; i++) {
            Integer v = rows[s].marks[i];
            if (v != null && !(man(i) && w.men.get(i).pennies == v)) {
                return i;
            }
        }
        return NONE;
    }

    int copy(int from, int p, int to, int at, int many) {
        if (!in(from, 0, 3) || !in(to, 0, 3)) {
            return BAD;
        }
        if (rows[from] == null || rows[to] == null) {
            return NOTHING;
        }
        if (rows[from].sort != rows[to].sort) {
            return KIND;
        }
        Integer[] old = rows[from].marks.clone();
        long ends = (long) p + many, endsAt = (long) at + many;
        if (p < 0 || at < 0 || many < 0 || ends > old.length || endsAt > rows[to].marks.length) {
            return INDEX;
        }
        for (int i = 0; i < many; i++) {
            rows[to].marks[at + i] = old[p + i];
        }
        return many;
    }

    int lay(int slot, int thing, int k) {
        if (!in(slot, 0, 4) || !in(thing, 0, 3) || thing == 1 && !man(k) || thing == 2 && !in(k, 0, 3)) {
            return BAD;
        }
        if (thing == 2 && rows[k] == null) {
            return NOTHING;
        }
        Object was = slots[slot];
        slots[slot] = thing == 0 ? null : thing == 1 ? w.men.get(k).twin() : thing == 2 ? rows[k].twin() : (Object) k;
        return was == null ? 0 : was instanceof Man ? 1 : was instanceof Row ? 2 : 3;
    }

    int ask(int slot, int kind) {
        if (!in(slot, 0, 4) || !in(kind, 0, 5)) {
            return BAD;
        }
        if (slots[slot] == null) {
            return NOTHING;
        }
        return slots[slot] instanceof Man m && under(m.kind, kind) ? worth(m.kind, m.sat) : KIND;
    }

    int item(int slot, int p) {
        if (!in(slot, 0, 4)) {
            return BAD;
        }
        if (slots[slot] == null) {
            return NOTHING;
        }
        if (!(slots[slot] instanceof Row r)) {
            return KIND;
        }
        if (!in(p, 0, r.marks.length - 1)) {
            return INDEX;
        }
        return r.marks[p] == null ? KIND : r.marks[p];
    }

    int rest(int slot, int n) {
        if (!in(slot, 0, 4)) {
            return BAD;
        }
        if (slots[slot] == null) {
            return NOTHING;
        }
        if (!(slots[slot] instanceof Integer i)) {
            return KIND;
        }
        return n == 0 ? NO : (int) ((long) i % n);
    }

    int tell(int v) {
        if (waiting.size() == 60) {
            return FULL;
        }
        waiting.add(v);
        return waiting.size();
    }

    int check(int n) {
        List<Integer> given = new ArrayList<>(waiting);
        waiting.clear();
        if (!in(n, 1, 30)) {
            return BAD;
        }
        if (image == null) {
            return NO;
        }
        World later = image.twin();
        List<Integer> due = new ArrayList<>();
        for (int i = 0; i < n && later.minute < 9999; i++) {
            later.minutePasses();
            due.add(later.takenSet());
            due.add(later.till);
        }
        int right = 0;
        while (right < given.size() && right < due.size() && given.get(right).equals(due.get(right))) {
            right++;
        }
        return right == given.size() && right == due.size() ? 0 : 1 + right;
    }

    int keep() {
        image = w.twin();
        return w.men.size();
    }

    int back() {
        if (image == null) {
            return NO;
        }
        w = image.twin();
        return w.men.size();
    }

    int count(int what) {
        int[] all = {w.men.size(), w.n, w.ring, w.wall, w.minute, w.price, w.rule, w.come, w.rise,
            w.texts.size(), waiting.size(), tape.length(), w.z};
        return in(what, 0, 12) ? all[what] : BAD;
    }

    /** The numbers that a right check of n minutes wants, by the image. */
    List<Integer> toldRight(int n) {
        List<Integer> due = new ArrayList<>();
        if (image != null) {
            World later = image.twin();
            for (int i = 0; i < n && later.minute < 9999; i++) {
                later.minutePasses();
                due.add(later.takenSet());
                due.add(later.till);
            }
        }
        return due;
    }

    int pennies(int k) {
        return man(k) ? w.men.get(k).pennies : 0;
    }
}
