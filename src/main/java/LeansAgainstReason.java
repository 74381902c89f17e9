import java.util.Arrays;

/** A rack of things that lean on purposes which weaken by days; see README.md and ../shared/DOC.md. */
public final class LeansAgainstReason {
    private static final int MOST_PURPOSES = 5;
    private static final int MOST_THINGS = 10;
    private static final int PLACES = 20;
    private static final int MOST_LETTERS = 96;
    private static final int MOST_IN_ROW = 16;

    private static final int KINDS = 6;
    private static final int MOST_FIGURE = 9;
    private static final int MOST_WEIGHT = 9;
    private static final int MOST_STRENGTH = 99;
    private static final int LAST_DAY = 999;
    private static final int MOST_DAYS = 60;
    private static final int FARTHEST = 99;
    private static final int MOST_LEANING_DAYS = 20;
    private static final int MOST_DRAUGHT_DAYS = 7;
    private static final int LEAST_ODDS = 2;
    private static final int MOST_ODDS = 20;
    private static final int MOST_TERMS = 20;
    private static final int TERM_DAYS = 20;

    private static final int NONE = -9;

    private static final int NOBODY = 1;
    private static final int OTHER = 2;
    private static final int STATE = 3;
    private static final int BELOW = 4;
    private static final int ROOM = 6;
    private static final int SPARE_REFUSED = 1000000000;
    private static final long LONG_REFUSED = 4000000000000000000L;

    private final Mind mind;
    private final Rack now;
    private final Letters letters;
    private final Rack image;
    private boolean imageTaken;
    private final int[] row;
    private int inRow;
    private final int[] refusals;

    public LeansAgainstReason() {
        mind = new Mind();
        now = mind.now;
        letters = new Letters();
        image = new Rack();
        imageTaken = false;
        row = new int[MOST_IN_ROW];
        inRow = 0;
        refusals = new int[ROOM + 1];
    }

    // ---- telling a rack ----

    public int letter(int c) {
        if (c < 0) {
            return refuse(BELOW);
        }
        if (c > 255 || letters.many >= MOST_LETTERS) {
            return refuse(ROOM);
        }
        letters.add(c);
        return letters.many;
    }

    public int rack() {
        int wrong = letters.firstWrong();
        int answer = wrong == NONE ? mind.hear(letters) : -1000 - wrong;
        letters.many = 0;
        return answer;
    }

    // ---- what there is now ----

    public int purpose(int purpose, int what) {
        if (!now.isPurpose(purpose)) {
            return refuse(NOBODY);
        }
        switch (what) {
            case 0: return now.kind[purpose];
            case 1: return now.figure[purpose];
            case 2: return now.strength[purpose];
            case 3: return now.load[purpose];
            case 4: return lessNextDay(purpose);
            default: return refuse(OTHER);
        }
    }

    private int lessNextDay(int purpose) {
        if (!now.isPurpose(purpose)) {
            return 0;
        }
        int strength = now.strength[purpose];
        return Weakening.by(now.kind[purpose], now.figure[purpose], strength, now.load[purpose], now.day + 1);
    }

    public int spare(int purpose) {
        if (!now.isPurpose(purpose)) {
            return SPARE_REFUSED - refuse(NOBODY);
        }
        return now.spareOf(purpose);
    }

    public int thing(int thing, int what) {
        if (!now.isThing(thing)) {
            return refuse(NOBODY);
        }
        switch (what) {
            case 0: return now.weight[thing];
            case 1: return now.place[thing];
            case 2: return now.holder[thing];
            case 3: return now.isUp(thing) ? 1 : 0;
            default: return refuse(OTHER);
        }
    }

    public int at(int place) {
        if (!isPlace(place)) {
            return refuse(NOBODY);
        }
        return now.inPlace[place];
    }

    public int count(int what) {
        switch (what) {
            case 0: return now.purposes;
            case 1: return now.things;
            case 2: return now.day;
            case 3: return now.up;
            case 4: return now.allStrength();
            case 5: return now.allLoad();
            case 6: return inRow;
            case 7: return letters.many;
            default: return what >= 11 && what <= 16 ? refusals[what - 10] : NONE;
        }
    }

    // ---- what changes it ----

    public int leans(int thing, int purpose) {
        if (!now.isThing(thing) || !now.isPurpose(purpose)) {
            return refuse(NOBODY);
        }
        int before = now.holder[thing];
        now.leanOn(thing, purpose);
        return before;
    }

    public int moves(int thing, int place) {
        if (!now.isThing(thing) || !isPlace(place)) {
            return refuse(NOBODY);
        }
        if (!now.isFreeFor(thing, place)) {
            return refuse(STATE);
        }
        int before = now.place[thing];
        now.moveTo(thing, place);
        return before;
    }

    public int setsUp(int thing) {
        if (!now.isThing(thing)) {
            return refuse(NOBODY);
        }
        if (now.isUp(thing)) {
            return 0;
        }
        now.raise(thing);
        return 1;
    }

    public int pushes(int thing) {
        int off = offUpThing(thing);
        return off != 0 ? refuse(off) : now.topple(thing);
    }

    public int strong(int purpose, int v) {
        int off = now.isPurpose(purpose) ? outside(v, 0, MOST_STRENGTH) : NOBODY;
        if (off != 0) {
            return refuse(off);
        }
        int before = now.strength[purpose];
        now.strength[purpose] = v;
        return before;
    }

    public int turn(int purpose, int kind, int figure) {
        if (!now.isPurpose(purpose)) {
            return refuse(NOBODY);
        }
        if (kind < 0 || kind >= KINDS) {
            return refuse(OTHER);
        }
        int off = outside(figure, 0, MOST_FIGURE);
        if (off != 0) {
            return refuse(off);
        }
        int before = 10 * now.kind[purpose] + now.figure[purpose];
        now.kind[purpose] = kind;
        now.figure[purpose] = figure;
        return before;
    }

    public int days(int n) {
        // On the last day no number is low enough; one below 1 is refused as that all the same.
        int off = outside(n, 1, Math.min(MOST_DAYS, LAST_DAY - now.day));
        if (off != 0) {
            return refuse(off);
        }
        now.passDays(n);
        return now.standing();
    }

    // ---- n days on, in mind ----

    public int upThen(int thing, int n) {
        int off = now.isThing(thing) ? outside(n, 0, FARTHEST) : NOBODY;
        if (off != 0) {
            return refuse(off);
        }
        return mind.behind(n).isUp(thing) ? 1 : 0;
    }

    public int allThen(int n) {
        int off = outside(n, 0, FARTHEST);
        return off != 0 ? refuse(off) : mind.behind(n).standing();
    }

    public int purposeThen(int purpose, int n, int what) {
        int off = now.isPurpose(purpose) ? outside(n, 0, FARTHEST) : NOBODY;
        if (off != 0) {
            return refuse(off);
        }
        if (isNeither(what)) {
            return refuse(OTHER);
        }
        Rack then = mind.behind(n);
        return what == 0 ? then.strength[purpose] : then.load[purpose];
    }

    public int falls(int thing) {
        return now.isThing(thing) ? mind.downBehind(thing) : refuse(NOBODY);
    }

    public int first(int what) {
        if (what < 0 || what > 3) {
            return refuse(OTHER);
        }
        if (what == 3) {
            return mind.flatBehind();
        }
        int when = mind.firstDownBehind();
        if (what == 2) {
            return when == NONE ? FARTHEST : when - 1;
        }
        if (what == 1 || when == NONE) {
            return when;
        }
        return now.leastPlaced(now.up & ~mind.behind(when).up);
    }

    // ---- falls that pass on ----

    public int pushed(int thing) {
        int off = offUpThing(thing);
        return off != 0 ? refuse(off) : now.felledBy(thing, 0);
    }

    public int worst(int what) {
        if (isNeither(what)) {
            return refuse(OTHER);
        }
        int which = now.worstPush();
        if (what == 0 || which == NONE) {
            return which;
        }
        return Integer.bitCount(now.felledBy(which, 0));
    }

    public int gap(int thing) {
        int off = offUpThing(thing);
        return off != 0 ? refuse(off) : now.gapBehind(thing);
    }

    public int longest(int what) {
        if (isNeither(what)) {
            return refuse(OTHER);
        }
        int place = now.longestFrom();
        if (what == 1) {
            return place;
        }
        return place == NONE ? 0 : now.besideFrom(place);
    }

    public int bestPlace(int thing, int what) {
        if (!now.isThing(thing)) {
            return refuse(NOBODY);
        }
        if (isNeither(what)) {
            return refuse(OTHER);
        }
        if (!now.isUp(thing)) {
            return refuse(STATE);
        }
        int place = mind.safestPlace(thing);
        return what == 0 ? place : mind.felledFrom(thing, place);
    }

    // ---- what had better be ----

    public int lean(int thing) {
        int off = offUpThing(thing);
        return off != 0 ? refuse(off) : mind.betterLean(thing);
    }

    public int bestLeans(int a, int b, int c, int n, int what) {
        if (!now.isThing(a) || !now.isThing(b) || !now.isThing(c) || a == b || a == c || b == c) {
            return refuse(NOBODY);
        }
        int off = outside(n, 0, MOST_LEANING_DAYS);
        if (off != 0) {
            return refuse(off);
        }
        if (isNeither(what)) {
            return refuse(OTHER);
        }
        int best = mind.bestOfThree(a, b, c, n);
        if (what == 0 || best == NONE) {
            return best;
        }
        return mind.standingLeant(a, b, c, best, n);
    }

    public int mended(int n) {
        int off = outside(n, 0, FARTHEST);
        return off != 0 ? refuse(off) : mind.toMend(n);
    }

    public int key(int n) {
        int off = outside(n, 0, FARTHEST);
        return off != 0 ? refuse(off) : mind.toBreak(n);
    }

    public int takes(int purpose, int n) {
        int off = now.isPurpose(purpose) ? outside(n, 0, FARTHEST) : NOBODY;
        if (off != 0) {
            return refuse(off);
        }
        int spare = mind.behind(n).spareOf(purpose);
        return spare < 0 ? NONE : Math.min(spare, MOST_WEIGHT);
    }

    public int balanced(int purpose, int what) {
        if (!now.isPurpose(purpose)) {
            return refuse(NOBODY);
        }
        if (isNeither(what)) {
            return refuse(OTHER);
        }
        int bits = now.mostWithin(now.strength[purpose]);
        return what == 0 ? bits : Integer.bitCount(bits);
    }

    // ---- those who push ----

    public int thief(int n) {
        int off = outside(n, 0, FARTHEST);
        return off != 0 ? refuse(off) : mind.standingRobbed(n);
    }

    public int robbed() {
        return mind.nothingToRobBehind();
    }

    public long draught(int thing, int n, int t, int part) {
        int off = offDraught(thing, n, t, part);
        if (off != 0) {
            return LONG_REFUSED - refuse(off);
        }
        long above = mind.waysUp(thing, n, t);
        long below = power(t, n);
        long common = commonDivisor(above, below);
        if (common < 1) {
            return part;
        }
        return part == 0 ? above / common : below / common;
    }

    private int offDraught(int thing, int n, int t, int part) {
        if (!now.isThing(thing)) {
            return NOBODY;
        }
        if (n < 0 || t < LEAST_ODDS) {
            return BELOW;
        }
        if (n > MOST_DRAUGHT_DAYS || t > MOST_ODDS) {
            return ROOM;
        }
        return isNeither(part) ? OTHER : 0;
    }

    public int two(int a, int b, int n) {
        if (!now.isThing(a) || !now.isThing(b) || a == b) {
            return refuse(NOBODY);
        }
        int off = outside(n, 0, FARTHEST);
        return off != 0 ? refuse(off) : mind.settled(a, b, n);
    }

    // ---- the row ----

    public int whatWas(int purpose, int what) {
        if (!now.isPurpose(purpose)) {
            return refuse(NOBODY);
        }
        if (isNeither(what)) {
            return refuse(OTHER);
        }
        return what == 0 ? kindsThatFit(purpose) : figuresThatFit(purpose);
    }

    private int kindsThatFit(int purpose) {
        int bits = 0;
        for (int kind = 0; kind < KINDS; kind++) {
            if (mind.weakensAs(purpose, kind, now.figure[purpose], row, inRow)) {
                bits |= 1 << kind;
            }
        }
        return bits;
    }

    private int figuresThatFit(int purpose) {
        int bits = 0;
        for (int figure = 0; figure <= MOST_FIGURE; figure++) {
            if (mind.weakensAs(purpose, now.kind[purpose], figure, row, inRow)) {
                bits |= 1 << figure;
            }
        }
        return bits;
    }

    public int row(int v) {
        int off = outside(v, 0, 99);
        if (off == 0 && (inRow < 0 || inRow >= MOST_IN_ROW)) {
            off = ROOM;
        }
        if (off != 0) {
            return refuse(off);
        }
        row[inRow] = v;
        inRow++;
        return inRow;
    }

    public int judge() {
        int answer = mind.firstMisjudged(row, inRow);
        inRow = 0;
        return answer;
    }

    public int clear() {
        int had = inRow;
        inRow = 0;
        return had;
    }

    // ---- lots and the image ----

    public int lots(int n, int z, int what) {
        int off = outside(n, 1, MOST_TERMS);
        if (off != 0) {
            return refuse(off);
        }
        if (isNeither(what)) {
            return refuse(OTHER);
        }
        if (now.purposes < 1) {
            return refuse(STATE);
        }
        return mind.termsByLot(n, z, what);
    }

    public int image() {
        image.become(now);
        imageTaken = true;
        return now.day;
    }

    public int on() {
        if (!imageTaken) {
            return refuse(STATE);
        }
        now.become(image);
        return now.day;
    }

    // ---- refusals and numbers ----

    private int refuse(int number) {
        if (number >= 0 && number < refusals.length) {
            refusals[number]++;
        }
        return -number;
    }

    /** The refusal that a thing which must be up meets, 0 for none. */
    private int offUpThing(int thing) {
        if (!now.isThing(thing)) {
            return NOBODY;
        }
        return now.isUp(thing) ? 0 : STATE;
    }

    /** The refusal that a number meets, 0 for none; too low goes ahead of too high. */
    private static int outside(int v, int least, int most) {
        if (v < least) {
            return BELOW;
        }
        return v > most ? ROOM : 0;
    }

    private static boolean isNeither(int what) {
        return what != 0 && what != 1;
    }

    private static boolean isPlace(int place) {
        return place >= 0 && place < PLACES;
    }

    private static boolean has(int bits, int number) {
        return number >= 0 && number < 32 && (bits >>> number & 1) == 1;
    }

    private static long power(int base, int exponent) {
        long product = 1;
        for (int i = 0; i < exponent && i < MOST_DRAUGHT_DAYS; i++) {
            product *= base;
        }
        return product;
    }

    private static long commonDivisor(long a, long b) {
        long large = a;
        long small = b;
        for (int i = 0; i < 200 && small != 0; i++) {
            long rest = large % small;
            large = small;
            small = rest;
        }
        return large;
    }

    /** By how much a purpose of each kind weakens on a day. */
    private static final class Weakening {
        static final int HABIT = 1;
        static final int VOW = 2;
        static final int OATH = 3;
        static final int WHIM = 4;
        static final int LIE = 5;
        static final int FIRM = 50;

        static int by(int kind, int figure, int strength, int load, int day) {
            int habit = ofHabit(figure, day);
            int vow = strength >= FIRM ? 0 : habit;
            int whim = 1 + figure;
            switch (kind) {
                case HABIT: return habit;
                case VOW: return vow;
                case OATH: return vow + figure / 3;
                case WHIM: return whim;
                // No thing weighs less than 1: a load tells that something up leans there.
                case LIE: return load > 0 ? 2 * whim : 0;
                default: return 1;
            }
        }

        private static int ofHabit(int figure, int day) {
            int every = figure + 1;
            return every > 0 && day % every == 0 ? 1 : 0;
        }
    }

    /** All that an image holds. Loads and places are kept beside what they follow from: days in mind are many. */
    private static final class Rack {
        int purposes;
        int things;
        int day;
        int up;
        final int[] kind;
        final int[] figure;
        final int[] strength;
        final int[] load;
        final int[] weight;
        final int[] place;
        final int[] holder;
        final int[] inPlace;

        Rack() {
            kind = new int[MOST_PURPOSES];
            figure = new int[MOST_PURPOSES];
            strength = new int[MOST_PURPOSES];
            load = new int[MOST_PURPOSES];
            weight = new int[MOST_THINGS];
            place = new int[MOST_THINGS];
            holder = new int[MOST_THINGS];
            inPlace = new int[PLACES];
            Arrays.fill(inPlace, NONE);
        }

        void become(Rack other) {
            purposes = other.purposes;
            things = other.things;
            day = other.day;
            up = other.up;
            System.arraycopy(other.kind, 0, kind, 0, MOST_PURPOSES);
            System.arraycopy(other.figure, 0, figure, 0, MOST_PURPOSES);
            System.arraycopy(other.strength, 0, strength, 0, MOST_PURPOSES);
            System.arraycopy(other.load, 0, load, 0, MOST_PURPOSES);
            System.arraycopy(other.weight, 0, weight, 0, MOST_THINGS);
            System.arraycopy(other.place, 0, place, 0, MOST_THINGS);
            System.arraycopy(other.holder, 0, holder, 0, MOST_THINGS);
            System.arraycopy(other.inPlace, 0, inPlace, 0, PLACES);
        }

        boolean isPurpose(int p) {
            return p >= 0 && p < purposes && p < MOST_PURPOSES;
        }

        boolean isThing(int t) {
            return t >= 0 && t < things && t < MOST_THINGS;
        }

        boolean isUp(int t) {
            return t >= 0 && t < things && t < MOST_THINGS && (up >>> t & 1) == 1;
        }

        boolean isFreeFor(int t, int where) {
            return isPlace(where) && (inPlace[where] == NONE || inPlace[where] == t);
        }

        int standing() {
            return Integer.bitCount(up);
        }

        int spareOf(int p) {
            return isPurpose(p) ? strength[p] - load[p] : 0;
        }

        int allStrength() {
            int sum = 0;
            for (int p = 0; p < purposes && p < MOST_PURPOSES; p++) {
                sum += strength[p];
            }
            return sum;
        }

        int allLoad() {
            int sum = 0;
            for (int p = 0; p < purposes && p < MOST_PURPOSES; p++) {
                sum += load[p];
            }
            return sum;
        }

        // -- telling: each answers whether it could be so --

        boolean addPurpose(int newKind, int newFigure, int newStrength) {
            if (purposes < 0 || purposes >= MOST_PURPOSES) {
                return false;
            }
            kind[purposes] = newKind;
            figure[purposes] = newFigure;
            strength[purposes] = newStrength;
            load[purposes] = 0;
            purposes++;
            return true;
        }

        boolean addThing(int newWeight, int where, int p) {
            int t = things;
            if (t < 0 || t >= MOST_THINGS || newWeight < 1 || !isPurpose(p) || !isFreeFor(NONE, where)) {
                return false;
            }
            things++;
            weight[t] = newWeight;
            place[t] = where;
            inPlace[where] = t;
            holder[t] = p;
            raise(t);
            return true;
        }

        boolean leanOn(int t, int p) {
            if (!isThing(t) || !isPurpose(p)) {
                return false;
            }
            if (isUp(t)) {
                weigh(t, -1);
            }
            holder[t] = p;
            if (isUp(t)) {
                weigh(t, 1);
            }
            return true;
        }

        boolean raise(int t) {
            if (isThing(t) && !isUp(t)) {
                up |= 1 << t;
                weigh(t, 1);
            }
            return isThing(t);
        }

        boolean strengthen(int p, int newStrength) {
            if (!isPurpose(p)) {
                return false;
            }
            strength[p] = newStrength;
            return true;
        }

        void moveTo(int t, int where) {
            if (isThing(t) && isFreeFor(t, where) && isPlace(place[t])) {
                inPlace[place[t]] = NONE;
                place[t] = where;
                inPlace[where] = t;
            }
        }

        private void weigh(int t, int sign) {
            if (t < 0 || t >= MOST_THINGS) {
                return;
            }
            int p = holder[t];
            if (p >= 0 && p < MOST_PURPOSES) {
                load[p] += sign * weight[t];
            }
        }

        // -- days and falls --

        void passDays(int n) {
            for (int i = 0; i < n; i++) {
                passDay();
            }
        }

        void passDay() {
            day++;
            for (int p = 0; p < purposes && p < MOST_PURPOSES; p++) {
                int less = Weakening.by(kind[p], figure[p], strength[p], load[p], day);
                strength[p] = Math.max(0, strength[p] - less);
            }
            for (int p = 0; p < purposes && p < MOST_PURPOSES; p++) {
                if (spareOf(p) < 0) {
                    topple(heaviestOn(p));
                }
            }
        }

        private int heaviestOn(int p) {
            int which = NONE;
            int most = 0;
            for (int s = 0; s < PLACES; s++) {
                int t = inPlace[s];
                if (isUp(t) && holder[t] == p && weight[t] > most) {
                    which = t;
                    most = weight[t];
                }
            }
            return which;
        }

        /** A fall; how many are down by it: none, if the thing is not up. */
        int topple(int thing) {
            int felled = felledBy(thing, 0);
            for (int t = 0; t < things && t < MOST_THINGS; t++) {
                if (has(felled, t)) {
                    weigh(t, -1);
                }
            }
            up &= ~felled;
            return Integer.bitCount(felled);
        }

        /** The things that a fall of a thing would fell, if those in the bits taken were not there. */
        int felledBy(int thing, int taken) {
            if (thing < 0 || thing >= things || thing >= MOST_THINGS) {
                return 0;
            }
            int there = up & ~taken;
            int felled = 0;
            int weightAhead = weight[thing];
            for (int s = place[thing]; s >= 0 && s < PLACES; s++) {
                int t = inPlace[s];
                if (t < 0 || t >= MOST_THINGS || (there >>> t & 1) == 0 || weight[t] > weightAhead) {
                    break;
                }
                felled |= 1 << t;
                weightAhead = weight[t];
            }
            return felled;
        }

        // -- looking along the places --

        int leastPlaced(int bits) {
            for (int s = 0; s < PLACES; s++) {
                if (has(bits, inPlace[s])) {
                    return inPlace[s];
                }
            }
            return NONE;
        }

        int leastPlacedWithoutSpare() {
            for (int s = 0; s < PLACES; s++) {
                int t = inPlace[s];
                if (isUp(t) && spareOf(holder[t]) <= 0) {
                    return t;
                }
            }
            return NONE;
        }

        int worstPush() {
            int which = NONE;
            int most = 0;
            for (int s = 0; s < PLACES; s++) {
                int t = inPlace[s];
                int felled = isUp(t) ? Integer.bitCount(felledBy(t, 0)) : 0;
                if (felled > most) {
                    which = t;
                    most = felled;
                }
            }
            return which;
        }

        int gapBehind(int thing) {
            int which = NONE;
            // The one taken away is not counted: only one felled less besides is a gain.
            int fewest = Integer.bitCount(felledBy(thing, 0)) - 1;
            for (int t = 0; t < things && t < MOST_THINGS; t++) {
                if (t != thing && isUp(t)) {
                    int felled = Integer.bitCount(felledBy(thing, 1 << t));
                    if (felled < fewest) {
                        which = t;
                        fewest = felled;
                    }
                }
            }
            return which;
        }

        int besideFrom(int from) {
            int many = 0;
            for (int s = from; s >= 0 && s < PLACES && isUp(inPlace[s]); s++) {
                many++;
            }
            return many;
        }

        int longestFrom() {
            int which = NONE;
            int most = 0;
            for (int s = 0; s < PLACES; s++) {
                int many = besideFrom(s);
                if (many > most) {
                    which = s;
                    most = many;
                }
            }
            return which;
        }

        // -- the most that a strength holds --

        int mostWithin(int limit) {
            int best = 0;
            int most = 0;
            for (int bits = 0; bits < 1 << MOST_THINGS && bits <= up; bits++) {
                if ((bits & ~up) == 0 && Integer.bitCount(bits) > most && weightOf(bits) <= limit) {
                    best = bits;
                    most = Integer.bitCount(bits);
                }
            }
            return best;
        }

        private int weightOf(int bits) {
            int sum = 0;
            for (int t = 0; t < things && t < MOST_THINGS; t++) {
                if (has(bits, t)) {
                    sum += weight[t];
                }
            }
            return sum;
        }
    }

    /** The letters told so far, and what they say. */
    private static final class Letters {
        static final String KIND_LETTERS = "phvowl";

        final int[] told;
        int many;

        Letters() {
            told = new int[MOST_LETTERS];
        }

        void add(int c) {
            if (many >= 0 && many < MOST_LETTERS) {
                told[many] = c;
                many++;
            }
        }

        /** How a statement with this first letter is written: K a letter of a kind, 9 a digit; empty for none. */
        static String formOf(int c) {
            switch (c) {
                case 'p': return "pK999;";
                case 't': return "t9999;";
                case 'l': return "l99;";
                case 'u': return "u9;";
                case 's': return "s999;";
                case 'd': return "d99;";
                default: return "";
            }
        }

        static boolean fits(char sign, int c) {
            switch (sign) {
                case 'K': return kindOf(c) >= 0;
                case '9': return c >= '0' && c <= '9';
                default: return c == sign;
            }
        }

        static int kindOf(int c) {
            return KIND_LETTERS.indexOf((char) c);
        }

        /** The place of the first letter with which no rack can go on, or NONE. */
        int firstWrong() {
            String form = "";
            int step = 0;
            for (int i = 0; i < many && i < MOST_LETTERS; i++) {
                if (step >= form.length()) {
                    form = formOf(told[i]);
                    step = 0;
                }
                if (step >= form.length() || !fits(form.charAt(step), told[i])) {
                    return i;
                }
                step++;
            }
            return many == 0 || step < form.length() ? many : NONE;
        }

        int letterAt(int i) {
            return i >= 0 && i < many && i < MOST_LETTERS ? told[i] : 0;
        }

        int digitAt(int i) {
            return letterAt(i) - '0';
        }

        int numberAt(int i) {
            return 10 * digitAt(i) + digitAt(i + 1);
        }

        /** Does what the statement from a place says; whether it was as it must be. */
        boolean tell(int from, Rack rack) {
            switch (letterAt(from)) {
                case 'p':
                    return rack.addPurpose(kindOf(letterAt(from + 1)), digitAt(from + 2), numberAt(from + 3));
                case 't':
                    return rack.addThing(digitAt(from + 1), numberAt(from + 2), digitAt(from + 4));
                case 'l':
                    return rack.leanOn(digitAt(from + 1), digitAt(from + 2));
                case 'u':
                    return rack.raise(digitAt(from + 1));
                case 's':
                    return rack.strengthen(digitAt(from + 1), numberAt(from + 2));
                case 'd':
                    return tellDays(numberAt(from + 1), rack);
                default:
                    return false;
            }
        }

        private static boolean tellDays(int n, Rack rack) {
            if (n < 1 || n > MOST_DAYS || n > LAST_DAY - rack.day) {
                return false;
            }
            for (int i = 0; i < n; i++) {
                rack.passDay();
            }
            return true;
        }
    }

    /** The rack as it is, and one in mind on which all that is only thought of is tried. */
    private static final class Mind {
        final Rack now;
        final Rack then;
        final int[] outcomes;

        Mind() {
            now = new Rack();
            then = new Rack();
            outcomes = new int[4];
        }

        /** How many statements came, or the fault of the first that is not as it must be. */
        int hear(Letters letters) {
            then.become(now);
            int from = 0;
            int statements = 0;
            for (int i = 0; i < MOST_LETTERS && from < letters.many; i++) {
                if (!letters.tell(from, then)) {
                    return -2000 - from;
                }
                from += Letters.formOf(letters.letterAt(from)).length();
                statements++;
            }
            now.become(then);
            return statements;
        }

        Rack behind(int n) {
            then.become(now);
            then.passDays(n);
            return then;
        }

        // -- when things are down --

        int downBehind(int thing) {
            then.become(now);
            return downFromThen(thing);
        }

        private int downFromThen(int thing) {
            for (int n = 0; n <= FARTHEST; n++) {
                if (!then.isUp(thing)) {
                    return n;
                }
                then.passDay();
            }
            return NONE;
        }

        int firstDownBehind() {
            then.become(now);
            for (int n = 1; n <= FARTHEST; n++) {
                then.passDay();
                if (then.up != now.up) {
                    return n;
                }
            }
            return NONE;
        }

        int flatBehind() {
            then.become(now);
            for (int n = 0; n <= FARTHEST; n++) {
                if (then.up == 0) {
                    return n;
                }
                then.passDay();
            }
            return NONE;
        }

        // -- leans --

        int betterLean(int thing) {
            int which = NONE;
            int longest = -1;
            for (int p = 0; p < now.purposes; p++) {
                then.become(now);
                then.leanOn(thing, p);
                int n = downFromThen(thing);
                int lasts = n == NONE ? FARTHEST + 1 : n;
                if (lasts > longest) {
                    which = p;
                    longest = lasts;
                }
            }
            return which;
        }

        /** The three purposes as the digits of a number; the numbers rise in the order in which leans are tried. */
        int bestOfThree(int a, int b, int c, int n) {
            int best = NONE;
            int most = -1;
            for (int i = 0; i < now.purposes; i++) {
                for (int j = 0; j < now.purposes; j++) {
                    for (int k = 0; k < now.purposes; k++) {
                        int leans = 100 * i + 10 * j + k;
                        int standing = standingLeant(a, b, c, leans, n);
                        if (standing > most) {
                            best = leans;
                            most = standing;
                        }
                    }
                }
            }
            return best;
        }

        int standingLeant(int a, int b, int c, int leans, int n) {
            then.become(now);
            then.leanOn(a, leans / 100);
            then.leanOn(b, leans / 10 % 10);
            then.leanOn(c, leans % 10);
            then.passDays(n);
            return then.standing();
        }

        // -- strengths --

        int toMend(int n) {
            int which = NONE;
            int most = behind(n).standing();
            for (int p = 0; p < now.purposes; p++) {
                int standing = standingWith(p, MOST_STRENGTH, n);
                if (standing > most) {
                    which = p;
                    most = standing;
                }
            }
            return which;
        }

        int toBreak(int n) {
            int which = NONE;
            int fewest = behind(n).standing();
            for (int p = 0; p < now.purposes; p++) {
                int standing = standingWith(p, 0, n);
                if (standing < fewest) {
                    which = p;
                    fewest = standing;
                }
            }
            return which;
        }

        private int standingWith(int purpose, int strength, int n) {
            then.become(now);
            then.strengthen(purpose, strength);
            then.passDays(n);
            return then.standing();
        }

        // -- places --

        int safestPlace(int thing) {
            int which = NONE;
            int fewest = MOST_THINGS + 1;
            for (int s = 0; s < PLACES; s++) {
                int felled = now.isFreeFor(thing, s) ? felledFrom(thing, s) : MOST_THINGS + 1;
                if (felled < fewest) {
                    which = s;
                    fewest = felled;
                }
            }
            return which;
        }

        int felledFrom(int thing, int place) {
            then.become(now);
            then.moveTo(thing, place);
            return Integer.bitCount(then.felledBy(thing, 0));
        }

        // -- those who push --

        int standingRobbed(int n) {
            then.become(now);
            for (int i = 0; i < n; i++) {
                then.topple(then.leastPlacedWithoutSpare());
                then.passDay();
            }
            return then.standing();
        }

        int nothingToRobBehind() {
            then.become(now);
            for (int n = 0; n <= FARTHEST; n++) {
                int t = then.leastPlacedWithoutSpare();
                if (t == NONE) {
                    return n;
                }
                then.topple(t);
                then.passDay();
            }
            return NONE;
        }

        /** In how many of t to the n ways a thing is up: each day one of t ways has a draught. */
        long waysUp(int thing, int n, int t) {
            long ways = 0;
            for (int draughts = 0; draughts < 1 << n; draughts++) {
                if (isUpDraughted(thing, n, draughts)) {
                    ways += power(t - 1, n - Integer.bitCount(draughts));
                }
            }
            return ways;
        }

        private boolean isUpDraughted(int thing, int n, int draughts) {
            then.become(now);
            for (int i = 0; i < n; i++) {
                if (has(draughts, i)) {
                    then.topple(then.leastPlaced(then.up));
                }
                then.passDay();
            }
            return then.isUp(thing);
        }

        /** The first pair of pushes (1) or none (0) from which neither would go alone, as two digits. */
        int settled(int a, int b, int n) {
            for (int pair = 0; pair < 4; pair++) {
                outcomes[pair] = standingPushed(pair / 2 == 1 ? a : NONE, pair % 2 == 1 ? b : NONE, n);
            }
            for (int pair = 0; pair < 4; pair++) {
                // The one's digit is the pair's upper bit, the other's the lower.
                if (outcomes[pair] >= outcomes[pair ^ 2] && outcomes[pair] <= outcomes[pair ^ 1]) {
                    return 10 * (pair / 2) + pair % 2;
                }
            }
            return NONE;
        }

        private int standingPushed(int a, int b, int n) {
            then.become(now);
            then.topple(a);
            then.topple(b);
            then.passDays(n);
            return then.standing();
        }

        // -- the row --

        boolean weakensAs(int purpose, int kind, int figure, int[] row, int inRow) {
            then.become(now);
            if (!then.isPurpose(purpose)) {
                return false;
            }
            then.kind[purpose] = kind;
            then.figure[purpose] = figure;
            for (int i = 0; i < inRow && i < row.length; i++) {
                if (then.strength[purpose] != row[i]) {
                    return false;
                }
                then.passDay();
            }
            return true;
        }

        int firstMisjudged(int[] row, int inRow) {
            then.become(now);
            for (int i = 0; i < inRow && i < row.length; i++) {
                if (then.standing() != row[i]) {
                    return i;
                }
                then.passDay();
            }
            return NONE;
        }

        // -- lots --

        int termsByLot(int n, int z, int what) {
            int sum = 0;
            int seed = z;
            for (int i = 0; i < n; i++) {
                then.become(now);
                for (int t = 0; t < now.things; t++) {
                    seed = nextSeed(seed);
                    then.leanOn(t, drawBelow(seed, now.purposes));
                }
                then.passDays(TERM_DAYS);
                sum += what == 0 ? then.standing() : then.allStrength();
            }
            return sum;
        }

        private static int nextSeed(int z) {
            return z * 1664525 + 1013904223;
        }

        private static int drawBelow(int z, int m) {
            return m > 0 ? (z & 0x7fffffff) / 256 % m : 0;
        }
    }
}
