import java.util.ArrayList;
import java.util.Arrays;
import java.util.List;
import java.util.Random;
import java.util.regex.Matcher;
import java.util.regex.Pattern;

/** Long random runs of calls, each answer against that of a second model, written as the document words it. */
public final class ModelTest {
    private static final int RUNS = 2500;
    private static final int CALLS = 512;
    /** More than the calls of one told text or row: a run ends ahead of the object's last call. */
    private static final int MOST_AT_ONCE = 40;
    private static final int[] WILD = {Integer.MIN_VALUE, -1000, -2, -1, 0, 1, 5, 9, 10, 19, 20, 31, 32, 33, 60, 61,
        96, 99, 100, 255, 256, 999, 1000, Integer.MAX_VALUE};

    public static void main(String[] args) {
        for (int seed = 0; seed < RUNS; seed++) {
            new Run(seed).go();
        }
        Due.end("ModelTest");
    }

    // ---- the model: things and purposes as objects, nothing kept that can be found ----

    private static final class Purpose {
        char kind;
        int figure;
        int strength;

        Purpose(char kind, int figure, int strength) {
            this.kind = kind;
            this.figure = figure;
            this.strength = strength;
        }

        int less(boolean leant, int day) {
            return less(kind, leant, day);
        }

        private int less(char as, boolean leant, int day) {
            if (as == 'h') {
                return day % (figure + 1) == 0 ? 1 : 0;
            }
            if (as == 'v') {
                return strength >= 50 ? 0 : less('h', leant, day);
            }
            if (as == 'o') {
                return less('v', leant, day) + figure / 3;
            }
            if (as == 'w') {
                return less('p', leant, day) + figure;
            }
            if (as == 'l') {
                return leant ? 2 * less('w', leant, day) : 0;
            }
            return 1;
        }
    }

    private static final class Thing {
        final int weight;
        int place;
        int on;
        boolean up;

        Thing(int weight, int place, int on, boolean up) {
            this.weight = weight;
            this.place = place;
            this.on = on;
            this.up = up;
        }
    }

    private static final class World {
        final List<Purpose> purposes = new ArrayList<>();
        final List<Thing> things = new ArrayList<>();
        int day;

        World copy() {
            World w = new World();
            for (Purpose p : purposes) {
                w.purposes.add(new Purpose(p.kind, p.figure, p.strength));
            }
            for (Thing t : things) {
                w.things.add(new Thing(t.weight, t.place, t.on, t.up));
            }
            w.day = day;
            return w;
        }

        int load(int p) {
            int sum = 0;
            for (Thing t : things) {
                sum += t.up && t.on == p ? t.weight : 0;
            }
            return sum;
        }

        int spare(int p) {
            return purposes.get(p).strength - load(p);
        }

        Thing in(int place) {
            for (Thing t : things) {
                if (t.place == place) {
                    return t;
                }
            }
            return null;
        }

        int numberIn(int place) {
            Thing t = in(place);
            return t == null ? -9 : things.indexOf(t);
        }

        int up() {
            int many = 0;
            for (Thing t : things) {
                many += t.up ? 1 : 0;
            }
            return many;
        }

        int bits() {
            int bits = 0;
            for (int i = 0; i < things.size(); i++) {
                bits |= things.get(i).up ? 1 << i : 0;
            }
            return bits;
        }

        int strengths() {
            int sum = 0;
            for (Purpose p : purposes) {
                sum += p.strength;
            }
            return sum;
        }

        int loads() {
            int sum = 0;
            for (int p = 0; p < purposes.size(); p++) {
                sum += load(p);
            }
            return sum;
        }

        void fall(Thing t) {
            t.up = false;
            Thing next = in(t.place + 1);
            if (next != null && next.up && next.weight <= t.weight) {
                fall(next);
            }
        }

        void pass() {
            day++;
            boolean[] leant = new boolean[purposes.size()];
            for (int p = 0; p < leant.length; p++) {
                leant[p] = load(p) > 0;
            }
            for (int p = 0; p < leant.length; p++) {
                Purpose it = purposes.get(p);
                it.strength = Math.max(0, it.strength - it.less(leant[p], day));
            }
            for (int p = 0; p < leant.length; p++) {
                if (spare(p) < 0) {
                    Thing which = null;
                    for (Thing t : things) {
                        if (t.up && t.on == p && (which == null || t.weight > which.weight
                            || t.weight == which.weight && t.place < which.place)) {
                            which = t;
                        }
                    }
                    fall(which);
                }
            }
        }

        World then(int n) {
            World w = copy();
            for (int i = 0; i < n; i++) {
                w.pass();
            }
            return w;
        }

        int felled(int thing) {
            World w = copy();
            w.fall(w.things.get(thing));
            return bits() & ~w.bits();
        }
    }

    /** The whole object in the model: what each call is due to answer. */
    private static final class Model {
        private static final Pattern RACK =
            Pattern.compile("(p[phvowl][0-9]{3};|t[0-9]{4};|l[0-9]{2};|u[0-9];|s[0-9]{3};|d[0-9]{2};)+");
        private static final String KINDS = "phvowl";

        World w = new World();
        World image;
        StringBuilder letters = new StringBuilder();
        List<Integer> row = new ArrayList<>();
        int[] refusals = new int[7];

        int no(int number) {
            refusals[-number]++;
            return number;
        }

        boolean p(int p) {
            return p >= 0 && p < w.purposes.size();
        }

        boolean t(int t) {
            return t >= 0 && t < w.things.size();
        }

        boolean up(int t) {
            return w.things.get(t).up;
        }

        int letter(int c) {
            if (c < 0) {
                return no(-4);
            }
            if (c > 255 || letters.length() == 96) {
                return no(-6);
            }
            letters.append((char) c);
            return letters.length();
        }

        int rack() {
            String text = letters.toString();
            letters = new StringBuilder();
            for (int i = 1; i <= text.length(); i++) {
                Matcher m = RACK.matcher(text.substring(0, i));
                if (!m.matches() && !m.hitEnd()) {
                    return -1000 - (i - 1);
                }
            }
            if (!RACK.matcher(text).matches()) {
                return -1000 - text.length();
            }
            World next = w.copy();
            int from = 0;
            int many = 0;
            for (String statement : text.split(";")) {
                if (!comes(next, statement)) {
                    return -2000 - from;
                }
                from += statement.length() + 1;
                many++;
            }
            w = next;
            return many;
        }

        private boolean comes(World v, String s) {
            int[] d = new int[s.length()];
            for (int i = 0; i < d.length; i++) {
                d[i] = s.charAt(i) - '0';
            }
            int purposes = v.purposes.size();
            int things = v.things.size();
            switch (s.charAt(0)) {
                case 'p':
                    v.purposes.add(new Purpose(s.charAt(1), d[2], 10 * d[3] + d[4]));
                    return purposes < 5;
                case 't':
                    int place = 10 * d[2] + d[3];
                    if (d[1] == 0 || place > 19 || v.in(place) != null || d[4] >= purposes || things == 10) {
                        return false;
                    }
                    v.things.add(new Thing(d[1], place, d[4], true));
                    return true;
                case 'l':
                    if (d[1] >= things || d[2] >= purposes) {
                        return false;
                    }
                    v.things.get(d[1]).on = d[2];
                    return true;
                case 'u':
                    if (d[1] >= things) {
                        return false;
                    }
                    v.things.get(d[1]).up = true;
                    return true;
                case 's':
                    if (d[1] >= purposes) {
                        return false;
                    }
                    v.purposes.get(d[1]).strength = 10 * d[2] + d[3];
                    return true;
                default:
                    int n = 10 * d[1] + d[2];
                    if (n < 1 || n > 60 || v.day + n > 999) {
                        return false;
                    }
                    for (int i = 0; i < n; i++) {
                        v.pass();
                    }
                    return true;
            }
        }

        int purpose(int p, int what) {
            if (!p(p)) {
                return no(-1);
            }
            if (what < 0 || what > 4) {
                return no(-2);
            }
            Purpose it = w.purposes.get(p);
            return new int[] {KINDS.indexOf(it.kind), it.figure, it.strength, w.load(p),
                it.less(w.load(p) > 0, w.day + 1)}[what];
        }

        int spare(int p) {
            return p(p) ? w.spare(p) : 1000000000 - no(-1);
        }

        int thing(int t, int what) {
            if (!t(t)) {
                return no(-1);
            }
            if (what < 0 || what > 3) {
                return no(-2);
            }
            Thing it = w.things.get(t);
            return new int[] {it.weight, it.place, it.on, it.up ? 1 : 0}[what];
        }

        int at(int place) {
            return place < 0 || place > 19 ? no(-1) : w.numberIn(place);
        }

        int leans(int t, int p) {
            if (!t(t) || !p(p)) {
                return no(-1);
            }
            int was = w.things.get(t).on;
            w.things.get(t).on = p;
            return was;
        }

        int moves(int t, int place) {
            if (!t(t) || place < 0 || place > 19) {
                return no(-1);
            }
            Thing it = w.things.get(t);
            if (w.in(place) != null && w.in(place) != it) {
                return no(-3);
            }
            int was = it.place;
            it.place = place;
            return was;
        }

        int setsUp(int t) {
            if (!t(t)) {
                return no(-1);
            }
            int answer = up(t) ? 0 : 1;
            w.things.get(t).up = true;
            return answer;
        }

        int offUp(int t) {
            return !t(t) ? -1 : up(t) ? 0 : -3;
        }

        int pushes(int t) {
            if (offUp(t) != 0) {
                return no(offUp(t));
            }
            int felled = Integer.bitCount(w.felled(t));
            w.fall(w.things.get(t));
            return felled;
        }

        int strong(int p, int v) {
            if (!p(p)) {
                return no(-1);
            }
            if (v < 0 || v > 99) {
                return no(v < 0 ? -4 : -6);
            }
            int was = w.purposes.get(p).strength;
            w.purposes.get(p).strength = v;
            return was;
        }

        int turn(int p, int kind, int figure) {
            if (!p(p)) {
                return no(-1);
            }
            if (kind < 0 || kind > 5) {
                return no(-2);
            }
            if (figure < 0 || figure > 9) {
                return no(figure < 0 ? -4 : -6);
            }
            Purpose it = w.purposes.get(p);
            int was = 10 * KINDS.indexOf(it.kind) + it.figure;
            it.kind = KINDS.charAt(kind);
            it.figure = figure;
            return was;
        }

        int days(int n) {
            if (n < 1) {
                return no(-4);
            }
            if (n > 60 || w.day + n > 999) {
                return no(-6);
            }
            w = w.then(n);
            return w.up();
        }

        int offThen(int n) {
            return n < 0 ? -4 : n > 99 ? -6 : 0;
        }

        int upThen(int t, int n) {
            int off = t(t) ? offThen(n) : -1;
            return off != 0 ? no(off) : w.then(n).things.get(t).up ? 1 : 0;
        }

        int allThen(int n) {
            return offThen(n) != 0 ? no(offThen(n)) : w.then(n).up();
        }

        int purposeThen(int p, int n, int what) {
            int off = p(p) ? offThen(n) : -1;
            if (off == 0 && what != 0 && what != 1) {
                off = -2;
            }
            if (off != 0) {
                return no(off);
            }
            return what == 0 ? w.then(n).purposes.get(p).strength : w.then(n).load(p);
        }

        private static int lasts(World from, int t) {
            for (int n = 0; n <= 99; n++) {
                if (!from.then(n).things.get(t).up) {
                    return n;
                }
            }
            return -9;
        }

        int falls(int t) {
            return t(t) ? lasts(w, t) : no(-1);
        }

        int first(int what) {
            if (what < 0 || what > 3) {
                return no(-2);
            }
            int which = -9;
            int when = -9;
            int allUp = -1;
            int flat = -9;
            for (int n = 0; n <= 99; n++) {
                World then = w.then(n);
                int gone = w.bits() & ~then.bits();
                for (int place = 0; place < 20 && gone != 0 && when < 0; place++) {
                    int t = w.numberIn(place);
                    if (t >= 0 && (gone & 1 << t) != 0) {
                        which = t;
                        when = n;
                    }
                }
                if (gone == 0) {
                    allUp = n;
                }
                if (then.up() == 0 && flat < 0) {
                    flat = n;
                }
            }
            return new int[] {which, when, allUp, flat}[what];
        }

        int pushed(int t) {
            return offUp(t) != 0 ? no(offUp(t)) : w.felled(t);
        }

        int worst(int what) {
            if (what != 0 && what != 1) {
                return no(-2);
            }
            int[] best = {-9, -9};
            for (int place = 19; place >= 0; place--) {
                int t = w.numberIn(place);
                if (t >= 0 && up(t) && Integer.bitCount(w.felled(t)) >= best[1]) {
                    best[0] = t;
                    best[1] = Integer.bitCount(w.felled(t));
                }
            }
            return best[what];
        }

        int gap(int t) {
            if (offUp(t) != 0) {
                return no(offUp(t));
            }
            int which = -9;
            int fewest = Integer.bitCount(w.felled(t)) - 2;
            for (int other = w.things.size() - 1; other >= 0; other--) {
                if (other != t && up(other)) {
                    World v = w.copy();
                    v.things.get(other).place = 500;
                    int felled = Integer.bitCount(v.felled(t));
                    if (felled <= fewest) {
                        which = other;
                        fewest = felled;
                    }
                }
            }
            return which;
        }

        int longest(int what) {
            if (what != 0 && what != 1) {
                return no(-2);
            }
            for (int many = 10; many >= 1; many--) {
                for (int from = 0; from + many <= 20; from++) {
                    boolean all = true;
                    for (int s = from; s < from + many; s++) {
                        all &= w.in(s) != null && w.in(s).up;
                    }
                    if (all) {
                        return what == 0 ? many : from;
                    }
                }
            }
            return what == 0 ? 0 : -9;
        }

        int lean(int t) {
            if (offUp(t) != 0) {
                return no(offUp(t));
            }
            int which = -9;
            int longest = 0;
            for (int p = w.purposes.size() - 1; p >= 0; p--) {
                World v = w.copy();
                v.things.get(t).on = p;
                int lasts = lasts(v, t) < 0 ? 1000 : lasts(v, t);
                if (lasts >= longest) {
                    which = p;
                    longest = lasts;
                }
            }
            return which;
        }

        int bestLeans(int a, int b, int c, int n, int what) {
            if (!t(a) || !t(b) || !t(c) || a == b || b == c || a == c) {
                return no(-1);
            }
            if (n < 0 || n > 20) {
                return no(n < 0 ? -4 : -6);
            }
            if (what != 0 && what != 1) {
                return no(-2);
            }
            int[] best = {-9, -9};
            int many = w.purposes.size();
            for (int all = many * many * many - 1; all >= 0; all--) {
                World v = w.copy();
                v.things.get(a).on = all / (many * many);
                v.things.get(b).on = all / many % many;
                v.things.get(c).on = all % many;
                int up = v.then(n).up();
                if (up >= best[1]) {
                    best[0] = 100 * v.things.get(a).on + 10 * v.things.get(b).on + v.things.get(c).on;
                    best[1] = up;
                }
            }
            return best[what];
        }

        int strengthened(int n, int strength, int sign) {
            if (offThen(n) != 0) {
                return no(offThen(n));
            }
            int which = -9;
            int best = sign * w.then(n).up() + 1;
            for (int p = w.purposes.size() - 1; p >= 0; p--) {
                World v = w.copy();
                v.purposes.get(p).strength = strength;
                int up = sign * v.then(n).up();
                if (up >= best) {
                    which = p;
                    best = up;
                }
            }
            return which;
        }

        int takes(int p, int n) {
            int off = p(p) ? offThen(n) : -1;
            if (off != 0) {
                return no(off);
            }
            for (int weight = 9; weight >= 0; weight--) {
                if (w.then(n).spare(p) - weight >= 0) {
                    return weight;
                }
            }
            return -9;
        }

        int balanced(int p, int what) {
            if (!p(p)) {
                return no(-1);
            }
            if (what != 0 && what != 1) {
                return no(-2);
            }
            int best = 0;
            for (int bits = 1023; bits >= 0; bits--) {
                int weight = 0;
                boolean all = true;
                for (int t = 0; t < 10; t++) {
                    if ((bits & 1 << t) != 0) {
                        all &= t(t) && up(t);
                        weight += t(t) ? w.things.get(t).weight : 0;
                    }
                }
                if (all && weight <= w.purposes.get(p).strength && Integer.bitCount(bits) >= Integer.bitCount(best)) {
                    best = bits;
                }
            }
            return what == 0 ? best : Integer.bitCount(best);
        }

        private static Thing loose(World v) {
            for (int place = 0; place < 20; place++) {
                Thing t = v.in(place);
                if (t != null && t.up && v.spare(t.on) <= 0) {
                    return t;
                }
            }
            return null;
        }

        private World robbedThen(int n) {
            World v = w.copy();
            for (int i = 0; i < n; i++) {
                if (loose(v) != null) {
                    v.fall(loose(v));
                }
                v.pass();
            }
            return v;
        }

        int thief(int n) {
            return offThen(n) != 0 ? no(offThen(n)) : robbedThen(n).up();
        }

        int robbed() {
            for (int n = 0; n <= 99; n++) {
                if (loose(robbedThen(n)) == null) {
                    return n;
                }
            }
            return -9;
        }

        int bestPlace(int t, int what) {
            if (!t(t)) {
                return no(-1);
            }
            if (what != 0 && what != 1) {
                return no(-2);
            }
            if (!up(t)) {
                return no(-3);
            }
            int[] best = {-9, 100};
            for (int place = 19; place >= 0; place--) {
                if (w.in(place) == null || w.in(place) == w.things.get(t)) {
                    World v = w.copy();
                    v.things.get(t).place = place;
                    int felled = Integer.bitCount(v.felled(t));
                    if (felled <= best[1]) {
                        best[0] = place;
                        best[1] = felled;
                    }
                }
            }
            return best[what];
        }

        private static long ways(World v, int t, int n, int odds) {
            if (n == 0) {
                return v.things.get(t).up ? 1 : 0;
            }
            World blown = v.copy();
            for (int place = 0; place < 20; place++) {
                if (blown.in(place) != null && blown.in(place).up) {
                    blown.fall(blown.in(place));
                    break;
                }
            }
            return ways(blown.then(1), t, n - 1, odds) + (odds - 1) * ways(v.then(1), t, n - 1, odds);
        }

        long draught(int t, int n, int odds, int part) {
            int off = 0;
            if (!t(t)) {
                off = -1;
            } else if (n < 0 || odds < 2) {
                off = -4;
            } else if (n > 7 || odds > 20) {
                off = -6;
            } else if (part != 0 && part != 1) {
                off = -2;
            }
            if (off != 0) {
                return 4000000000000000000L - no(off);
            }
            java.math.BigInteger above = java.math.BigInteger.valueOf(ways(w, t, n, odds));
            java.math.BigInteger below = java.math.BigInteger.valueOf(odds).pow(n);
            return (part == 0 ? above : below).divide(above.gcd(below)).longValue();
        }

        int two(int a, int b, int n) {
            if (!t(a) || !t(b) || a == b) {
                return no(-1);
            }
            if (offThen(n) != 0) {
                return no(offThen(n));
            }
            int[][] end = new int[2][2];
            for (int one = 0; one < 2; one++) {
                for (int other = 0; other < 2; other++) {
                    World v = w.copy();
                    if (one == 1 && v.things.get(a).up) {
                        v.fall(v.things.get(a));
                    }
                    if (other == 1 && v.things.get(b).up) {
                        v.fall(v.things.get(b));
                    }
                    end[one][other] = v.then(n).up();
                }
            }
            for (int one = 0; one < 2; one++) {
                for (int other = 0; other < 2; other++) {
                    if (end[1 - one][other] <= end[one][other] && end[one][1 - other] >= end[one][other]) {
                        return 10 * one + other;
                    }
                }
            }
            return -9;
        }

        int whatWas(int p, int what) {
            if (!p(p)) {
                return no(-1);
            }
            if (what != 0 && what != 1) {
                return no(-2);
            }
            int bits = 0;
            for (int i = 0; i < (what == 0 ? 6 : 10); i++) {
                World v = w.copy();
                if (what == 0) {
                    v.purposes.get(p).kind = KINDS.charAt(i);
                } else {
                    v.purposes.get(p).figure = i;
                }
                boolean so = true;
                for (int n = 0; n < row.size(); n++) {
                    so &= v.then(n).purposes.get(p).strength == row.get(n);
                }
                bits |= so ? 1 << i : 0;
            }
            return bits;
        }

        int row(int v) {
            if (v < 0) {
                return no(-4);
            }
            if (v > 99 || row.size() == 16) {
                return no(-6);
            }
            row.add(v);
            return row.size();
        }

        int judge() {
            int answer = -9;
            for (int n = row.size() - 1; n >= 0; n--) {
                if (w.then(n).up() != row.get(n)) {
                    answer = n;
                }
            }
            row.clear();
            return answer;
        }

        int clear() {
            int had = row.size();
            row.clear();
            return had;
        }

        int lots(int n, int z, int what) {
            if (n < 1 || n > 20) {
                return no(n < 1 ? -4 : -6);
            }
            if (what != 0 && what != 1) {
                return no(-2);
            }
            if (w.purposes.isEmpty()) {
                return no(-3);
            }
            int sum = 0;
            long seed = z;
            for (int i = 0; i < n; i++) {
                World v = w.copy();
                for (Thing t : v.things) {
                    seed = (int) (seed * 1664525L + 1013904223L);
                    long plain = seed < 0 ? seed + (1L << 31) : seed;
                    t.on = (int) (plain / 256 % v.purposes.size());
                }
                sum += what == 0 ? v.then(20).up() : v.then(20).strengths();
            }
            return sum;
        }

        int image() {
            image = w.copy();
            return w.day;
        }

        int on() {
            if (image == null) {
                return no(-3);
            }
            w = image.copy();
            return w.day;
        }

        int count(int what) {
            if (what >= 11 && what <= 16) {
                return refusals[what - 10];
            }
            if (what < 0 || what > 7) {
                return -9;
            }
            return new int[] {w.purposes.size(), w.things.size(), w.day, w.bits(), w.strengths(), w.loads(),
                row.size(), letters.length()}[what];
        }
    }

    // ---- runs ----

    private static final class Run {
        private final int seed;
        private final Random random;
        private final LeansAgainstReason x = new LeansAgainstReason();
        private final Model m = new Model();
        private int calls;

        Run(int seed) {
            this.seed = seed;
            this.random = new Random(seed);
        }

        void go() {
            // Dear calls are rarer than in the program's own runs: the model finds everything anew.
            int most = seed % 8 == 0 ? CALLS - MOST_AT_ONCE : 160;
            if (seed % 4 == 1) {
                passMostDays();
            }
            tell(purposes());
            tell(things());
            while (calls < most) {
                if (random.nextInt(12) == 0) {
                    tell(text());
                } else if (random.nextInt(10) == 0) {
                    tellRow();
                } else {
                    call(random.nextInt(41));
                }
            }
        }

        /** To where the last day is near: in thought it may be passed, told days may not. */
        private void passMostDays() {
            for (int i = 0; i < 16; i++) {
                due("days 60", x.days(60), m.days(60));
            }
            int n = 25 + random.nextInt(15);
            due("days " + n, x.days(n), m.days(n));
        }

        private void tell(String text) {
            for (int i = 0; i < text.length(); i++) {
                due("letter", x.letter(text.charAt(i)), m.letter(text.charAt(i)));
            }
            due("rack of " + text, x.rack(), m.rack());
        }

        private void tellRow() {
            int p = w(5);
            int many = random.nextInt(5);
            int slack = random.nextInt(4);
            boolean ups = random.nextBoolean();
            due("clear", x.clear(), m.clear());
            World then = m.w.copy();
            for (int i = 0; i < many; i++) {
                int told = ups ? then.up() : m.p(p) ? then.purposes.get(p).strength : i;
                told += slack == 0 && i == many - 1 ? 1 : 0;
                due("row " + told, x.row(told), m.row(told));
                then.pass();
            }
            if (ups) {
                due("judge", x.judge(), m.judge());
            } else {
                due("whatWas " + p + " 0", x.whatWas(p, 0), m.whatWas(p, 0));
                due("whatWas " + p + " 1", x.whatWas(p, 1), m.whatWas(p, 1));
            }
        }

        private void due(String call, long got, long want) {
            calls++;
            Due.is("seed " + seed + " call " + calls + ": " + call, got, want);
        }

        private String purposes() {
            StringBuilder s = new StringBuilder();
            int many = random.nextInt(6);
            for (int i = 0; i < many; i++) {
                s.append('p').append("phvowl".charAt(random.nextInt(6))).append(random.nextInt(10));
                s.append(two(random.nextInt(random.nextBoolean() ? 100 : 30))).append(';');
            }
            return s.toString();
        }

        private String things() {
            StringBuilder s = new StringBuilder();
            int many = random.nextInt(11);
            int spread = random.nextBoolean() ? 20 : 12;
            int heaviest = random.nextBoolean() ? 9 : 3;
            boolean[] taken = new boolean[20];
            for (int i = 0; i < many && !m.w.purposes.isEmpty(); i++) {
                int place = random.nextInt(spread);
                if (!taken[place]) {
                    taken[place] = true;
                    s.append('t').append(1 + random.nextInt(heaviest)).append(two(place));
                    s.append(random.nextInt(m.w.purposes.size())).append(';');
                }
            }
            return s.toString();
        }

        private String text() {
            StringBuilder s = new StringBuilder();
            int many = random.nextInt(5);
            for (int i = 0; i < many; i++) {
                switch (random.nextInt(7)) {
                    case 0: s.append("pphvowl".charAt(random.nextInt(7))).append("phvowl".charAt(random.nextInt(6)))
                        .append(random.nextInt(10)).append(two(random.nextInt(100))).append(';'); break;
                    case 1: s.append('t').append(random.nextInt(10)).append(two(random.nextInt(22)))
                        .append(random.nextInt(6)).append(';'); break;
                    case 2: s.append('l').append(random.nextInt(10)).append(random.nextInt(6)).append(';'); break;
                    case 3: s.append('u').append(random.nextInt(10)).append(';'); break;
                    case 4: s.append('s').append(random.nextInt(6)).append(two(random.nextInt(100))).append(';'); break;
                    case 5: s.append('d').append(two(random.nextInt(random.nextInt(8) == 0 ? 100 : 8))).append(';');
                        break;
                    default: s.append(random.nextInt(6) == 0 ? "x" : "u0;"); break;
                }
            }
            if (s.length() > 0 && random.nextInt(8) == 0) {
                s.setCharAt(random.nextInt(s.length()), "ptluds;09xw \u00ff".charAt(random.nextInt(13)));
            }
            if (s.length() > 0 && random.nextInt(8) == 0) {
                s.setLength(random.nextInt(s.length()));
            }
            return s.toString();
        }

        private static String two(int n) {
            return (n < 10 ? "0" : "") + n;
        }

        /** A number below m, but seldom a wild one. */
        private int w(int m) {
            return random.nextInt(25) == 0 ? WILD[random.nextInt(WILD.length)] : random.nextInt(m);
        }

        private int purpose() {
            return w(Math.max(1, m.w.purposes.size()));
        }

        private int thing() {
            return w(Math.max(1, m.w.things.size()));
        }

        private int then() {
            return random.nextInt(4) == 0 ? w(100) : w(12);
        }

        private int[] arguments(int which) {
            switch (which) {
                case 0: return new int[] {w(256)};
                case 1: case 28: case 34: case 35: case 37: case 38: return new int[0];
                case 2: return new int[] {purpose(), w(5)};
                case 3: return new int[] {purpose()};
                case 4: return new int[] {thing(), w(4)};
                case 5: return new int[] {w(20)};
                case 6: return new int[] {thing(), purpose()};
                case 7: return new int[] {thing(), w(20)};
                case 8: case 9: case 15: case 17: case 19: case 21: return new int[] {thing()};
                case 10: return new int[] {purpose(), w(100)};
                case 11: return new int[] {purpose(), w(6), w(10)};
                case 12: return new int[] {random.nextInt(5) == 0 ? w(61) : w(5)};
                case 13: return new int[] {thing(), then()};
                case 14: case 23: case 24: case 27: return new int[] {then()};
                case 16: return new int[] {w(4)};
                case 18: case 20: return new int[] {w(2)};
                case 22: return new int[] {thing(), thing(), thing(), w(21), w(2)};
                case 25: return new int[] {purpose(), then()};
                case 26: return new int[] {purpose(), w(2)};
                case 29: return new int[] {thing(), w(2)};
                case 30: return new int[] {thing(), w(8), 2 + w(19), w(2)};
                case 31: return new int[] {thing(), thing(), then()};
                case 32: return new int[] {purpose(), w(2)};
                case 33: return new int[] {w(100)};
                case 36: return new int[] {1 + w(20), random.nextInt(), w(2)};
                case 39: return new int[] {w(18)};
                default: return new int[] {purpose(), then(), w(2)};
            }
        }

        private void call(int which) {
            int[] a = arguments(which);
            due("call " + which + Arrays.toString(a), got(which, a), want(which, a));
        }

        private long got(int which, int[] a) {
            switch (which) {
                case 0: return x.letter(a[0]);
                case 1: return x.rack();
                case 2: return x.purpose(a[0], a[1]);
                case 3: return x.spare(a[0]);
                case 4: return x.thing(a[0], a[1]);
                case 5: return x.at(a[0]);
                case 6: return x.leans(a[0], a[1]);
                case 7: return x.moves(a[0], a[1]);
                case 8: return x.setsUp(a[0]);
                case 9: return x.pushes(a[0]);
                case 10: return x.strong(a[0], a[1]);
                case 11: return x.turn(a[0], a[1], a[2]);
                case 12: return x.days(a[0]);
                case 13: return x.upThen(a[0], a[1]);
                case 14: return x.allThen(a[0]);
                case 15: return x.falls(a[0]);
                case 16: return x.first(a[0]);
                case 17: return x.pushed(a[0]);
                case 18: return x.worst(a[0]);
                case 19: return x.gap(a[0]);
                case 20: return x.longest(a[0]);
                case 21: return x.lean(a[0]);
                case 22: return x.bestLeans(a[0], a[1], a[2], a[3], a[4]);
                case 23: return x.mended(a[0]);
                case 24: return x.key(a[0]);
                case 25: return x.takes(a[0], a[1]);
                case 26: return x.balanced(a[0], a[1]);
                case 27: return x.thief(a[0]);
                case 28: return x.robbed();
                case 29: return x.bestPlace(a[0], a[1]);
                case 30: return x.draught(a[0], a[1], a[2], a[3]);
                case 31: return x.two(a[0], a[1], a[2]);
                case 32: return x.whatWas(a[0], a[1]);
                case 33: return x.row(a[0]);
                case 34: return x.judge();
                case 35: return x.clear();
                case 36: return x.lots(a[0], a[1], a[2]);
                case 37: return x.image();
                case 38: return x.on();
                case 39: return x.count(a[0]);
                default: return x.purposeThen(a[0], a[1], a[2]);
            }
        }

        private long want(int which, int[] a) {
            switch (which) {
                case 0: return m.letter(a[0]);
                case 1: return m.rack();
                case 2: return m.purpose(a[0], a[1]);
                case 3: return m.spare(a[0]);
                case 4: return m.thing(a[0], a[1]);
                case 5: return m.at(a[0]);
                case 6: return m.leans(a[0], a[1]);
                case 7: return m.moves(a[0], a[1]);
                case 8: return m.setsUp(a[0]);
                case 9: return m.pushes(a[0]);
                case 10: return m.strong(a[0], a[1]);
                case 11: return m.turn(a[0], a[1], a[2]);
                case 12: return m.days(a[0]);
                case 13: return m.upThen(a[0], a[1]);
                case 14: return m.allThen(a[0]);
                case 15: return m.falls(a[0]);
                case 16: return m.first(a[0]);
                case 17: return m.pushed(a[0]);
                case 18: return m.worst(a[0]);
                case 19: return m.gap(a[0]);
                case 20: return m.longest(a[0]);
                case 21: return m.lean(a[0]);
                case 22: return m.bestLeans(a[0], a[1], a[2], a[3], a[4]);
                case 23: return m.strengthened(a[0], 99, 1);
                case 24: return m.strengthened(a[0], 0, -1);
                case 25: return m.takes(a[0], a[1]);
                case 26: return m.balanced(a[0], a[1]);
                case 27: return m.thief(a[0]);
                case 28: return m.robbed();
                case 29: return m.bestPlace(a[0], a[1]);
                case 30: return m.draught(a[0], a[1], a[2], a[3]);
                case 31: return m.two(a[0], a[1], a[2]);
                case 32: return m.whatWas(a[0], a[1]);
                case 33: return m.row(a[0]);
                case 34: return m.judge();
                case 35: return m.clear();
                case 36: return m.lots(a[0], a[1], a[2]);
                case 37: return m.image();
                case 38: return m.on();
                case 39: return m.count(a[0]);
                default: return m.purposeThen(a[0], a[1], a[2]);
            }
        }
    }
}
