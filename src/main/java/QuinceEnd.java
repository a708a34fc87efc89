/** Two who do not speak, and the pan in which what they have not said grows darker till it sets. */
public final class QuinceEnd {
    public static final int NONE = -1, BAD = -2, STATE = -3, FULL = -4;
    public static final long NO = Long.MIN_VALUE;

    private static final int NOTHING = -11, CAST = -12, PLACE = -13, SIZE = -14;
    /** Stands for NONE where an answer may be below 0. */
    private static final int NO_NUMBER = -10001;
    private static final int NOT_FOUND = -5;
    private static final int FAULT_BASE = -10;
    private static final int LOOKED_BASE = 100;

    private static final int THINGS = 6, KITCHENS = 6, TAPES = 6;
    private static final int MOST_V = 9, MOST_WEIGHT = 20, MOST_FIRE = 9, ROW_PARTS = 4, MOST_ROW = 9;
    private static final int MOST_COLOUR = 99999, MOST_TIME = 9999, MOST_MINUTE = 9999, MOST_MINUTES = 60;
    private static final int HOT = 6, MOST_SECRET_TIME = 9;
    private static final int MOST_SIGNS = 100, MOST_SIGN = 127, MOST_CLAUSES = 10, MOST_WITHIN = 4;
    private static final int MOST_BEST = 3, MOST_ENOUGH = 12, MOST_FLAME = 20, MOST_ODDS = 20;
    private static final int MOST_SEEN = 5, MOST_SEEN_MINUTES = 12, MOST_TOLD_COLOUR = 9999;
    private static final int MOST_PLAN = 10, MOST_BOOK = 8, MOST_TRACE = 20, MOST_ITEMS = 60;

    private static final int THING = 0, GRUDGE = 1, WORRY = 2, NAME = 3, CLOVE = 4, SECRET = 5, TOLD = 6;
    /** The KIND right above each KIND; -1 above THING. */
    private static final int[] ABOVE = {-1, 0, 0, 0, 1, 2, 3};

    /** Far above what two ints can need till nothing is left. */
    private static final int MOST_DIVISIONS = 100;

    private static final int UNSAID = 0, IN = 1, SAID = 2;

    private static final int GO = 0, PUT = 1, SAY = 2, BURN = 3;

    private static final int BYTES = 0, SHORTS = 1, INTS = 2, LONGS = 3, BOOLEANS = 4, EMPTY = -1;

    private final Whole now;
    private final Whole kept;
    private boolean imageTaken;
    private final Asking asking;
    private final Reading text;
    private final Kitchen[] kitchens;
    private int kitchenCount;
    private final Acting acting;
    private final Tape[] tapes;

    public QuinceEnd() {
        Kitchen bare = new Kitchen();
        now = new Whole(bare);
        kept = new Whole(bare);
        asking = new Asking(now, bare);
        text = new Reading(bare);
        kitchens = new Kitchen[KITCHENS];
        for (int i = 0; i < KITCHENS; i++) {
            kitchens[i] = new Kitchen();
        }
        acting = new Acting();
        tapes = new Tape[TAPES];
        for (int i = 0; i < TAPES; i++) {
            tapes[i] = new Tape();
        }
    }

    // ---- things, kitchens

    public int thing(int kind, int v, int weight, int whose) {
        if (!within(kind, THING, TOLD)) {
            return NONE;
        }
        if (!within(v, 0, MOST_V) || !within(weight, 0, MOST_WEIGHT) || !within(whose, 0, 1)) {
            return BAD;
        }
        return now.pan.addThing(kind, v, weight, whose);
    }

    public int of(int thing, int what) {
        Thing t = now.pan.find(thing);
        if (t == null) {
            return NO_NUMBER;
        }
        switch (what) {
            case 0: return t.kind;
            case 1: return t.v;
            case 2: return t.weight;
            case 3: return t.whose;
            case 4: return t.state;
            case 5: return t.time;
            case 6: return now.pan.gives(t);
            case 7: return asking.weights(thing);
            default: return NO_NUMBER;
        }
    }

    public int put(int thing) {
        Thing t = now.pan.find(thing);
        if (t == null) {
            return NONE;
        }
        if (t.state != UNSAID) {
            return STATE;
        }
        t.putIn();
        return now.pan.howMany(IN);
    }

    public int say(int thing) {
        Thing t = now.pan.find(thing);
        if (t == null) {
            return NONE;
        }
        if (t.state == SAID) {
            return STATE;
        }
        now.pan.speak(t);
        return now.pan.colour;
    }

    public int weigh(int thing, int n) {
        Thing t = now.pan.find(thing);
        if (t == null) {
            return NONE;
        }
        if (!within(n, 0, MOST_WEIGHT)) {
            return BAD;
        }
        int was = t.weight;
        t.weight = n;
        return was;
    }

    public int fire(int n) {
        if (!within(n, 0, MOST_FIRE)) {
            return BAD;
        }
        int was = now.pan.fire;
        now.pan.fire = n;
        return was;
    }

    public int tip() {
        int were = now.pan.howMany(IN);
        now.pan.tipOut();
        return were;
    }

    public int row(int thing, int part, int n) {
        Thing t = now.pan.find(thing);
        if (t == null || !within(part, 0, ROW_PARTS - 1)) {
            return NONE;
        }
        if (!within(n, 0, MOST_ROW)) {
            return BAD;
        }
        if (t.kind != TOLD) {
            return STATE;
        }
        int was = t.row[part];
        t.row[part] = n;
        return was;
    }

    public int feed(int sign) {
        if (!within(sign, 0, MOST_SIGN)) {
            return BAD;
        }
        return text.addSign(sign);
    }

    public int kitchen() {
        if (kitchenCount < 0 || kitchenCount >= KITCHENS) {
            return FULL;
        }
        Kitchen fresh = kitchens[kitchenCount];
        int fault = text.readInto(fresh);
        text.empty();
        if (fault >= 0) {
            return FAULT_BASE - fault;
        }
        now.pan.kitchen = fresh;
        kitchenCount++;
        return kitchenCount - 1;
    }

    public int told(int what) {
        Pan pan = now.pan;
        switch (what) {
            case 0: return pan.minute;
            case 1: return pan.kitchen.need;
            case 2: return pan.fire;
            case 3: return pan.colour;
            case 4: return pan.set ? 1 : 0;
            case 5: return pan.bitsOf(IN);
            case 6: return pan.bitsOf(SAID);
            case 7: return asking.sets();
            case 8: return asking.word();
            case 9: return pan.together();
            default: return NO_NUMBER;
        }
    }

    // ---- minutes

    public int pass(int n) {
        if (!within(n, 0, MOST_MINUTES)) {
            return BAD;
        }
        if (now.pan.minute + n > MOST_MINUTE) {
            return STATE;
        }
        now.pan.goMinutes(n);
        return now.pan.minute;
    }

    public int on(int n, int what) {
        if (!within(what, 0, 1)) {
            return NONE;
        }
        if (!within(n, 0, MOST_MINUTES)) {
            return BAD;
        }
        return asking.behind(n, what == 0);
    }

    // ---- what to put in

    public int best(int n, int k) {
        if (!within(k, -1, MOST_BEST - 1)) {
            return NONE;
        }
        if (!within(n, 1, MOST_BEST)) {
            return BAD;
        }
        return asking.bestRow(n, k);
    }

    public int enough(int n) {
        if (!within(n, 1, MOST_ENOUGH)) {
            return BAD;
        }
        return asking.fewest(n);
    }

    public int flame(int n, int q) {
        if (!within(n, 1, MOST_FLAME) || !within(q, 0, MOST_TOLD_COLOUR)) {
            return BAD;
        }
        return asking.nearestFire(n, q);
    }

    // ---- seen, odds

    public int see(int n, int colour) {
        if (n == -1) {
            return now.seen.empty();
        }
        if (!within(n, 0, MOST_SEEN_MINUTES) || !within(colour, 0, MOST_TOLD_COLOUR)) {
            return BAD;
        }
        return now.seen.add(n, colour);
    }

    public int can(int thing, int what) {
        if (now.pan.find(thing) == null || !within(what, 0, 1)) {
            return NONE;
        }
        return asking.firmness(thing, what == 0);
    }

    public long odds(int n, int part) {
        int unsaid = now.pan.howMany(UNSAID);
        if (!within(n, 0, MOST_ODDS) || !within(part, 0, 1) || unsaid == 0) {
            return NO;
        }
        return fraction(asking.chances(n), unsaid, part);
    }

    public long mean(int part) {
        int in = now.pan.howMany(IN);
        if (!within(part, 0, 1) || in == 0) {
            return NO;
        }
        return fraction(now.pan.together(), in, part);
    }

    // ---- plans, books

    public int plan(int what, int n) {
        if (what == -1) {
            return now.plan.empty();
        }
        if (!within(what, GO, BURN)) {
            return NONE;
        }
        if ((what == PUT || what == SAY) && now.pan.find(n) == null) {
            return NONE;
        }
        if (what == BURN && !within(n, 0, MOST_FIRE)) {
            return BAD;
        }
        return now.plan.add(what, n);
    }

    public int ends(int what) {
        if (!within(what, 0, 1)) {
            return NONE;
        }
        return asking.planned(what == 0);
    }

    public int book(int thing, int weight) {
        if (thing == -1) {
            return now.book.empty();
        }
        if (now.pan.find(thing) == null) {
            return NONE;
        }
        if (!within(weight, 0, MOST_WEIGHT)) {
            return BAD;
        }
        return now.book.add(thing, weight);
    }

    public int looked() {
        for (int i = 0; i < now.book.count; i++) {
            Thing t = now.pan.find(now.book.first(i));
            if (t == null || t.weight != now.book.second(i)) {
                return i;
            }
        }
        return NOT_FOUND;
    }

    // ---- judging, the image, acts, tapes

    public int judge(int tape, int i) {
        if (!within(tape, 0, TAPES - 1)) {
            return NONE;
        }
        Tape times = tapes[tape];
        if (times.sort != LONGS && times.sort != EMPTY) {
            return CAST;
        }
        return now.pan.judgeTimes(times, i);
    }

    public int image() {
        kept.copyFrom(now);
        imageTaken = true;
        return now.pan.count;
    }

    public int undo() {
        if (!imageTaken) {
            return STATE;
        }
        now.copyFrom(kept);
        return now.pan.count;
    }

    public int act(int thing, int act, int x) {
        acting.forget();
        Thing t = now.pan.find(thing);
        if (t == null || !within(act, Acting.DRIPS, Acting.TELLS)) {
            return 0;
        }
        return acting.perform(t, act, x);
    }

    public int trace(int i) {
        return acting.bodyAt(i);
    }

    public int taken(int thing, int k) {
        if (!within(k, THING, TOLD)) {
            return BAD;
        }
        Thing t = now.pan.find(thing);
        if (t == null) {
            return NOTHING;
        }
        return t.isUnder(k) ? t.kind : CAST;
    }

    public int count(int what) {
        switch (what) {
            case 0: return now.pan.count;
            case 1: return kitchenCount;
            case 2: return now.seen.count;
            case 3: return now.plan.count;
            case 4: return now.book.count;
            case 5: return text.length;
            case 6: return acting.ran;
            default: return BAD;
        }
    }

    public int tape(int tape, int sort, int n) {
        if (!within(tape, 0, TAPES - 1)) {
            return NONE;
        }
        if (sort == EMPTY) {
            tapes[tape].become(EMPTY, 0);
            return 1;
        }
        if (!within(sort, BYTES, BOOLEANS) || n > MOST_ITEMS) {
            return BAD;
        }
        if (n < 0) {
            return SIZE;
        }
        tapes[tape].become(sort, n);
        return 1;
    }

    public int item(int tape, int i, long v) {
        if (!within(tape, 0, TAPES - 1)) {
            return NONE;
        }
        Tape t = tapes[tape];
        if (t.sort == EMPTY) {
            return NOTHING;
        }
        if (!t.has(i)) {
            return PLACE;
        }
        t.items[i] = t.fitted(v);
        return 1;
    }

    public long read(int tape, int i) {
        if (!within(tape, 0, TAPES - 1) || !tapes[tape].has(i)) {
            return NO;
        }
        return tapes[tape].items[i];
    }

    public int shift(int tape, int i, int other, int j, int n) {
        if (!within(tape, 0, TAPES - 1) || !within(other, 0, TAPES - 1)) {
            return NONE;
        }
        Tape from = tapes[tape];
        Tape to = tapes[other];
        if (from.sort == EMPTY || to.sort == EMPTY) {
            return NOTHING;
        }
        if (from.sort != to.sort) {
            return CAST;
        }
        if (!from.hasRun(i, n) || !to.hasRun(j, n)) {
            return PLACE;
        }
        System.arraycopy(from.items, i, to.items, j, n);
        return n;
    }

    private static boolean within(int n, int least, int most) {
        return n >= least && n <= most;
    }

    /** Above (part 0) or below the line, in lowest terms; below is at least 1. */
    private static long fraction(int above, int below, int part) {
        int common = commonDivisor(Math.abs(above), below);
        if (common == 0) {
            return NO;
        }
        return part == 0 ? above / common : below / common;
    }

    private static int commonDivisor(int a, int b) {
        int larger = a;
        int smaller = b;
        for (int steps = 0; steps < MOST_DIVISIONS && smaller > 0; steps++) {
            int rest = larger % smaller;
            larger = smaller;
            smaller = rest;
        }
        return larger;
    }

    /** One thing, with all that is its own. */
    private static final class Thing {
        final int number;
        int kind;
        int v;
        int weight;
        int whose;
        int state;
        int time;
        final int[] row = new int[ROW_PARTS];

        Thing(int number) {
            this.number = number;
        }

        void copyFrom(Thing other) {
            kind = other.kind;
            v = other.v;
            weight = other.weight;
            whose = other.whose;
            state = other.state;
            time = other.time;
            System.arraycopy(other.row, 0, row, 0, ROW_PARTS);
        }

        /** A slot is used again after an undo, so all of it is set. */
        void begin(int newKind, int newV, int newWeight, int newWhose) {
            kind = newKind;
            v = newV;
            weight = newWeight;
            whose = newWhose;
            state = UNSAID;
            time = 0;
            for (int part = 0; part < ROW_PARTS; part++) {
                row[part] = 0;
            }
        }

        void putIn() {
            state = IN;
            time = 0;
        }

        boolean isUnder(int k) {
            int own = kind;
            for (int steps = 0; steps < ABOVE.length && own >= 0 && own < ABOVE.length; steps++) {
                if (own == k) {
                    return true;
                }
                own = ABOVE[own];
            }
            return false;
        }
    }

    /** The things, the pan and the fire under it; copied whole to ask what would be. */
    private static final class Pan {
        int count;
        final Thing[] things = new Thing[THINGS];
        int fire = 1;
        int colour;
        boolean set;
        int minute;
        Kitchen kitchen;
        /** What a kitchen's tests look at, in the order of their letters; used again for each thing. */
        private final int[] facts = new int[Reading.LETTERS];

        Pan(Kitchen bare) {
            kitchen = bare;
            for (int i = 0; i < THINGS; i++) {
                things[i] = new Thing(i);
            }
        }

        void copyFrom(Pan other) {
            count = other.count;
            for (int i = 0; i < THINGS; i++) {
                things[i].copyFrom(other.things[i]);
            }
            fire = other.fire;
            colour = other.colour;
            set = other.set;
            minute = other.minute;
            kitchen = other.kitchen;
        }

        int addThing(int kind, int v, int weight, int whose) {
            if (count < 0 || count >= THINGS) {
                return FULL;
            }
            things[count].begin(kind, v, weight, whose);
            count++;
            return count - 1;
        }

        /** The thing of that number, or null. */
        Thing find(int thing) {
            return thing >= 0 && thing < count && thing < THINGS ? things[thing] : null;
        }

        int bitsOf(int state) {
            int bits = 0;
            for (int i = 0; i < count && i < THINGS; i++) {
                if (things[i].state == state) {
                    bits |= 1 << i;
                }
            }
            return bits;
        }

        int howMany(int state) {
            return Integer.bitCount(bitsOf(state));
        }

        void speak(Thing t) {
            t.state = SAID;
            if (!set) {
                colour = Math.max(0, colour - 10 * t.weight);
            }
        }

        void tipOut() {
            for (int i = 0; i < count && i < THINGS; i++) {
                if (things[i].state == IN) {
                    things[i].state = UNSAID;
                }
            }
            colour = 0;
            set = false;
        }

        int gives(Thing t) {
            facts[0] = t.number;
            facts[1] = t.kind;
            facts[2] = t.v;
            facts[3] = t.weight;
            facts[4] = t.whose;
            facts[5] = Math.floorMod(minute, 10);
            int sum = t.weight + kitchen.adds(facts);
            switch (t.kind) {
                case GRUDGE: return sum + t.v;
                case WORRY: return sum / 2;
                case NAME: return spokenOver(t) ? 0 : sum;
                case CLOVE: return (sum + t.v) * (fire >= HOT ? 2 : 1);
                case SECRET: return sum / 2 + Math.min(t.time, MOST_SECRET_TIME);
                case TOLD: return (spokenOver(t) ? 0 : sum) + t.row[Math.floorMod(minute, ROW_PARTS)];
                default: return sum;
            }
        }

        /** Whether another thing of the same one is said: a name gives nothing then. */
        private boolean spokenOver(Thing t) {
            for (int i = 0; i < count && i < THINGS; i++) {
                Thing other = things[i];
                if (other.number != t.number && other.whose == t.whose && other.state == SAID) {
                    return true;
                }
            }
            return false;
        }

        /** What all in the pan give. */
        int together() {
            int total = 0;
            for (int i = 0; i < count && i < THINGS; i++) {
                if (things[i].state == IN) {
                    total += gives(things[i]);
                }
            }
            return total;
        }

        void goMinute() {
            if (!set) {
                int darker = colour + fire * together();
                colour = Math.min(MOST_COLOUR, Math.max(0, darker));
                set = colour >= kitchen.need;
            }
            for (int i = 0; i < count && i < THINGS; i++) {
                if (things[i].state == IN) {
                    things[i].time = Math.min(MOST_TIME, things[i].time + 1);
                }
            }
            minute++;
        }

        void goMinutes(int n) {
            for (int i = 0; i < n; i++) {
                goMinute();
            }
        }

        int judgeTimes(Tape times, int place) {
            int at = place;
            for (int i = 0; i < count && i < THINGS; i++) {
                if (!times.has(at)) {
                    return LOOKED_BASE + i;
                }
                if (times.items[at] != things[i].time) {
                    return i;
                }
                at++;
            }
            return NOT_FOUND;
        }
    }

    /** Pairs of numbers told by hand, up to a limit. */
    private static final class Rows {
        private final int[] firsts;
        private final int[] seconds;
        int count;

        Rows(int most) {
            int room = Math.max(0, most);
            firsts = new int[room];
            seconds = new int[room];
        }

        void copyFrom(Rows other) {
            int room = Math.min(firsts.length, other.firsts.length);
            System.arraycopy(other.firsts, 0, firsts, 0, room);
            System.arraycopy(other.seconds, 0, seconds, 0, room);
            count = other.count;
        }

        int empty() {
            count = 0;
            return 0;
        }

        int add(int first, int second) {
            if (count < 0 || count >= firsts.length || count >= seconds.length) {
                return FULL;
            }
            firsts[count] = first;
            seconds[count] = second;
            count++;
            return count;
        }

        int first(int i) {
            return i >= 0 && i < firsts.length ? firsts[i] : NONE;
        }

        int second(int i) {
            return i >= 0 && i < seconds.length ? seconds[i] : NONE;
        }
    }

    /** All that an image keeps. */
    private static final class Whole {
        final Pan pan;
        final Rows seen = new Rows(MOST_SEEN);
        final Rows plan = new Rows(MOST_PLAN);
        final Rows book = new Rows(MOST_BOOK);

        Whole(Kitchen bare) {
            pan = new Pan(bare);
        }

        void copyFrom(Whole other) {
            pan.copyFrom(other.pan);
            seen.copyFrom(other.seen);
            plan.copyFrom(other.plan);
            book.copyFrom(other.book);
        }
    }

    /** What would be: every question is tried on one copy, so that asking changes nothing. */
    private static final class Asking {
        /** Longer than any time that is answered, as "not by then" is greater than all. */
        private static final int NEVER = MOST_MINUTES + 1;

        private final Whole now;
        private final Pan trial;
        private final int[] tried = new int[MOST_BEST];
        private final int[] chosen = new int[MOST_BEST];

        Asking(Whole now, Kitchen bare) {
            this.now = now;
            trial = new Pan(bare);
        }

        int behind(int n, boolean colour) {
            trial.copyFrom(now.pan);
            trial.goMinutes(n);
            if (colour) {
                return trial.colour;
            }
            return trial.set ? 1 : 0;
        }

        int sets() {
            trial.copyFrom(now.pan);
            int minutes = minutesToSet();
            return minutes == NEVER ? NOT_FOUND : minutes;
        }

        private int minutesToSet() {
            for (int n = 0; n <= MOST_MINUTES; n++) {
                if (trial.set) {
                    return n;
                }
                trial.goMinute();
            }
            return NEVER;
        }

        int word() {
            trial.copyFrom(now.pan);
            int latest = minutesToSet();
            int word = NOT_FOUND;
            for (int i = 0; i < THINGS; i++) {
                trial.copyFrom(now.pan);
                Thing t = trial.find(i);
                if (t != null && t.state != SAID) {
                    trial.speak(t);
                    int minutes = minutesToSet();
                    if (minutes > latest) {
                        latest = minutes;
                        word = i;
                    }
                }
            }
            return word;
        }

        /** Rows are tried as numbers written with THINGS digits, so the first found is the first as a row. */
        int bestRow(int n, int k) {
            int rows = 1;
            for (int i = 0; i < n; i++) {
                rows *= THINGS;
            }
            int greatest = NOT_FOUND;
            for (int r = 0; r < rows; r++) {
                int colour = colourOfRow(r, n);
                if (colour > greatest) {
                    greatest = colour;
                    System.arraycopy(tried, 0, chosen, 0, MOST_BEST);
                }
            }
            if (k == -1 || greatest == NOT_FOUND) {
                return greatest;
            }
            return k >= 0 && k < n && k < MOST_BEST ? chosen[k] : NOT_FOUND;
        }

        /** COLOUR behind the row written as r, or -5 if it is none. */
        private int colourOfRow(int r, int n) {
            int rest = r;
            for (int i = Math.min(n, MOST_BEST) - 1; i >= 0; i--) {
                tried[i] = rest % THINGS;
                rest /= THINGS;
            }
            trial.copyFrom(now.pan);
            for (int i = 0; i < n && i < MOST_BEST; i++) {
                Thing t = trial.find(tried[i]);
                if (t == null || t.state != UNSAID) {
                    return NOT_FOUND;
                }
                t.putIn();
                trial.goMinute();
            }
            return trial.colour;
        }

        /** Sets are tried in the order of their bits, so that of several as few the least is kept. */
        int fewest(int n) {
            int unsaid = now.pan.bitsOf(UNSAID);
            int fewest = THINGS + 1;
            int found = NOT_FOUND;
            for (int bits = 0; bits < 1 << THINGS; bits++) {
                int many = Integer.bitCount(bits);
                if ((bits & ~unsaid) == 0 && many < fewest && setsWith(bits, n)) {
                    fewest = many;
                    found = bits;
                }
            }
            return found;
        }

        private boolean setsWith(int bits, int n) {
            trial.copyFrom(now.pan);
            for (int i = 0; i < THINGS; i++) {
                Thing t = trial.find(i);
                if (t != null && (bits >> i & 1) == 1) {
                    t.putIn();
                }
            }
            for (int minutes = 0; minutes < n && !trial.set; minutes++) {
                trial.goMinute();
            }
            return trial.set;
        }

        int nearestFire(int n, int q) {
            int nearest = 0;
            int least = MOST_COLOUR + 1;
            for (int fire = 0; fire <= MOST_FIRE; fire++) {
                trial.copyFrom(now.pan);
                trial.fire = fire;
                trial.goMinutes(n);
                int distance = Math.abs(trial.colour - q);
                if (distance < least) {
                    least = distance;
                    nearest = fire;
                }
            }
            return nearest;
        }

        int weights(int thing) {
            int bits = 0;
            for (int weight = 0; weight <= MOST_WEIGHT; weight++) {
                trial.copyFrom(now.pan);
                Thing t = trial.find(thing);
                if (t != null) {
                    t.weight = weight;
                    bits |= isAsSeen() ? 1 << weight : 0;
                }
            }
            return bits;
        }

        /** How many numbers v are as seen, or the least of them. */
        int firmness(int thing, boolean many) {
            int found = 0;
            int least = NOT_FOUND;
            for (int v = MOST_V; v >= 0; v--) {
                trial.copyFrom(now.pan);
                Thing t = trial.find(thing);
                if (t != null) {
                    t.v = v;
                    if (isAsSeen()) {
                        found++;
                        least = v;
                    }
                }
            }
            return many ? found : least;
        }

        private boolean isAsSeen() {
            Rows seen = now.seen;
            int looked = 0;
            for (int n = 0; n <= MOST_SEEN_MINUTES && looked < seen.count; n++) {
                for (int i = 0; i < seen.count; i++) {
                    if (seen.first(i) == n) {
                        if (seen.second(i) != trial.colour) {
                            return false;
                        }
                        looked++;
                    }
                }
                trial.goMinute();
            }
            return true;
        }

        /** By how many of the things that are unsaid it would be set behind n minutes. */
        int chances(int n) {
            int unsaid = now.pan.bitsOf(UNSAID);
            int good = 0;
            for (int i = 0; i < THINGS; i++) {
                if ((unsaid >> i & 1) == 1 && setsWith(1 << i, n)) {
                    good++;
                }
            }
            return good;
        }

        int planned(boolean colour) {
            trial.copyFrom(now.pan);
            for (int i = 0; i < now.plan.count; i++) {
                follow(now.plan.first(i), now.plan.second(i));
            }
            return colour ? trial.colour : trial.bitsOf(IN);
        }

        private void follow(int what, int n) {
            if (what == GO) {
                trial.goMinute();
            } else if (what == BURN) {
                trial.fire = n;
            } else {
                Thing t = trial.find(n);
                if (t != null && what == PUT && t.state == UNSAID) {
                    t.putIn();
                } else if (t != null && what == SAY && t.state != SAID) {
                    trial.speak(t);
                }
            }
        }
    }

    /** A text that was read: its tests and what joins them, in the order in which they are reckoned. */
    private static final class Kitchen {
        static final int AND = 6, OR = 7, NOT = 8, DARK = 9, CLEAR = 10;
        static final int LESS = 0, SAME = 1, MORE = 2;
        private static final int NEED_WITHOUT = 60;

        /** A letter's number 0 .. 5 for a test, or what is done with what was reckoned before. */
        private final int[] steps = new int[MOST_SIGNS];
        private final int[] relations = new int[MOST_SIGNS];
        private final int[] numbers = new int[MOST_SIGNS];
        private int stepCount;
        int need = NEED_WITHOUT;

        void clean() {
            stepCount = 0;
            need = NEED_WITHOUT;
        }

        void addStep(int step, int relation, int number) {
            if (stepCount >= 0 && stepCount < MOST_SIGNS) {
                steps[stepCount] = step;
                relations[stepCount] = relation;
                numbers[stepCount] = number;
                stepCount++;
            }
        }

        /** The n of all dark that hold less those of all clear; what is reckoned stands as bits, the latest lowest. */
        int adds(int[] facts) {
            int total = 0;
            int bits = 0;
            for (int i = 0; i < stepCount && i < MOST_SIGNS; i++) {
                int step = steps[i];
                int number = numbers[i];
                int latest = bits & 1;
                switch (step) {
                    case AND: bits = bits >> 1 & (latest | ~1); break;
                    case OR: bits = bits >> 1 | latest; break;
                    case NOT: bits ^= 1; break;
                    case DARK: total += latest * number; bits = 0; break;
                    case CLEAR: total -= latest * number; bits = 0; break;
                    default: {
                        int fact = step >= 0 && step < facts.length ? facts[step] : 0;
                        int relation = fact < number ? LESS : fact > number ? MORE : SAME;
                        bits = bits << 1 | (relation == relations[i] ? 1 : 0);
                    }
                }
            }
            return total;
        }
    }

    /** THE TEXT, and how it is read; a method that answers false leaves the place where it went wrong. */
    private static final class Reading {
        static final int LETTERS = 6;
        private static final String LETTER_SIGNS = "pkvwom";
        private static final String RELATION_SIGNS = "<=>";

        private final int[] signs = new int[MOST_SIGNS];
        int length;
        private int place;
        private Kitchen kitchen;

        /** The bare kitchen stands here till a text is read, so that there always is one. */
        Reading(Kitchen bare) {
            kitchen = bare;
        }

        int addSign(int sign) {
            if (length < 0 || length >= MOST_SIGNS) {
                return FULL;
            }
            signs[length] = sign;
            length++;
            return length;
        }

        void empty() {
            length = 0;
        }

        /** The fault, or -1. */
        int readInto(Kitchen fresh) {
            kitchen = fresh;
            kitchen.clean();
            place = 0;
            for (int n = 1; n <= MOST_CLAUSES; n++) {
                if (!clause()) {
                    return place;
                }
                if (place == length) {
                    return -1;
                }
                if (n == MOST_CLAUSES || !take(';')) {
                    return place;
                }
            }
            return place;
        }

        private boolean clause() {
            if (sign() == 'n') {
                return needClause();
            }
            boolean dark = sign() == 'd';
            if (!takeWord(dark ? "dark " : "clear ")) {
                return false;
            }
            int n = takeNumber();
            if (n < 0 || !take(' ') || !expression(0)) {
                return false;
            }
            kitchen.addStep(dark ? Kitchen.DARK : Kitchen.CLEAR, 0, n);
            return true;
        }

        private boolean needClause() {
            if (!takeWord("need ")) {
                return false;
            }
            int n = takeNumber();
            if (n < 0) {
                return false;
            }
            kitchen.need = 10 * n;
            return true;
        }

        /** An E; within tells in how many ( and ! it stands. */
        private boolean expression(int within) {
            boolean behindAnd = false;
            boolean behindOr = false;
            for (int factors = 0; factors < MOST_SIGNS; factors++) {
                if (!factor(within)) {
                    return false;
                }
                if (behindAnd) {
                    kitchen.addStep(Kitchen.AND, 0, 0);
                }
                behindAnd = take('&');
                if (!behindAnd) {
                    if (behindOr) {
                        kitchen.addStep(Kitchen.OR, 0, 0);
                    }
                    behindOr = take('|');
                    if (!behindOr) {
                        return true;
                    }
                }
            }
            return false;
        }

        /** An F. */
        private boolean factor(int within) {
            boolean deeper = within < MOST_WITHIN;
            if (sign() == '(') {
                return deeper && take('(') && expression(within + 1) && take(')');
            }
            if (sign() == '!') {
                if (!deeper || !take('!') || !factor(within + 1)) {
                    return false;
                }
                kitchen.addStep(Kitchen.NOT, 0, 0);
                return true;
            }
            int letter = takeOneOf(LETTER_SIGNS);
            int relation = letter < 0 ? -1 : takeOneOf(RELATION_SIGNS);
            int number = relation < 0 ? -1 : takeNumber();
            if (number < 0) {
                return false;
            }
            kitchen.addStep(letter, relation, number);
            return true;
        }

        /** The sign that stands here, or -1 at the end. */
        private int sign() {
            return place >= 0 && place < length && place < MOST_SIGNS ? signs[place] : -1;
        }

        private boolean take(int sign) {
            if (sign() != sign) {
                return false;
            }
            place++;
            return true;
        }

        private boolean takeWord(String word) {
            for (int i = 0; i < word.length(); i++) {
                if (!take(word.charAt(i))) {
                    return false;
                }
            }
            return true;
        }

        /** Which of them stood here, or -1. */
        private int takeOneOf(String few) {
            for (int i = 0; i < few.length(); i++) {
                if (sign() == few.charAt(i)) {
                    place++;
                    return i;
                }
            }
            return -1;
        }

        /** A number of one or two digits, or -1. */
        private int takeNumber() {
            int n = -1;
            for (int digits = 0; digits < 2; digits++) {
                int digit = sign() - '0';
                if (digit < 0 || digit > 9) {
                    return n;
                }
                n = digits == 0 ? digit : 10 * n + digit;
                place++;
            }
            return n;
        }
    }

    /** A row of items of one sort; each stands as the long that read answers. */
    private static final class Tape {
        int sort = EMPTY;
        private int length;
        final long[] items = new long[MOST_ITEMS];

        void become(int newSort, int n) {
            sort = newSort;
            length = n;
            for (int i = 0; i < MOST_ITEMS; i++) {
                items[i] = 0;
            }
        }

        boolean has(int i) {
            return i >= 0 && i < length && i < MOST_ITEMS;
        }

        boolean hasRun(int i, int n) {
            return n >= 0 && i >= 0 && length <= MOST_ITEMS && i <= length - n;
        }

        /** As much of v as an item of this sort holds. */
        long fitted(long v) {
            switch (sort) {
                case BYTES: return (byte) v;
                case SHORTS: return (short) v;
                case INTS: return (int) v;
                case BOOLEANS: return v != 0 ? 1 : 0;
                default: return v;
            }
        }
    }

    /** The acts of a thing, and the trace of the latest. */
    private static final class Acting {
        static final int DRIPS = 0, REDDENS = 1, TELLS = 2;
        private static final int ACTS = 3;
        /** The body of each act, KIND by KIND; 0 where a KIND has none of its own. */
        private static final int[] BODIES = {
            10, 11, 12,
            0, 20, 0,
            30, 0, 0,
            0, 0, 40,
            50, 51, 0,
            0, 0, 60,
            71, 70, 0
        };
        /** Far above what the bodies can need, so that no change to them could run away. */
        private static final int MOST_DEEP = 20;

        private final int[] bodies = new int[MOST_TRACE];
        int ran;
        private int kind;
        private int number;
        private int v;

        void forget() {
            ran = 0;
        }

        int bodyAt(int i) {
            return i >= 0 && i < ran && i < MOST_TRACE ? bodies[i] : NONE;
        }

        int perform(Thing t, int act, int x) {
            kind = t.kind;
            number = t.number;
            v = t.v;
            return from(kind, act, x, 0);
        }

        /** Runs the act's body of that KIND, or of the next above that has one. */
        private int from(int first, int act, int x, int depth) {
            if (depth >= MOST_DEEP || act < 0 || act >= ACTS) {
                return 0;
            }
            int k = first;
            for (int steps = 0; steps < ABOVE.length && k >= 0 && k < ABOVE.length; steps++) {
                int at = k * ACTS + act;
                if (at < BODIES.length && BODIES[at] != 0) {
                    return body(BODIES[at], ABOVE[k], x, depth + 1);
                }
                k = ABOVE[k];
            }
            return 0;
        }

        private int body(int body, int above, int x, int depth) {
            if (ran >= 0 && ran < MOST_TRACE) {
                bodies[ran] = body;
            }
            ran++;
            switch (body) {
                case 10: return x + number;
                case 11: return from(kind, DRIPS, x, depth) - v;
                case 12: return from(kind, REDDENS, x, depth) * 2;
                case 20: return from(above, REDDENS, x, depth) ^ 6;
                case 30: return from(above, DRIPS, x * 3, depth);
                case 40: return from(above, TELLS, x, depth) + from(kind, REDDENS, 1, depth);
                case 50: return -from(above, DRIPS, x, depth);
                case 51: return from(above, REDDENS, x + 1, depth);
                case 60: return from(above, TELLS, x - number, depth);
                case 70: return from(above, REDDENS, x, depth) + from(above, DRIPS, 2, depth);
                case 71: return from(above, DRIPS, x, depth) ^ v;
                default: return 0;
            }
        }
    }
}
