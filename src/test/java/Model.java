import java.util.ArrayList;
import java.util.List;
import java.util.function.Consumer;

/**
 * The document once more, in another way and without regard to speed: texts are judged by trying what could follow,
 * acts are methods of real classes, every question works on a deep copy. RandomRunsTest compares QuinceEnd with it.
 */
final class Model {
    static final long NO = Long.MIN_VALUE;
    private static final String[] STARTS = {"dark 1 p=1", "clear 1 p=1", "need 1"};

    private static class Thing implements Cloneable {
        int i, kind, v, weight, whose, state, time;
        int[] row = new int[4];
        List<Integer> ran;

        Thing twin() {
            try {
                Thing t = (Thing) clone();
                t.row = row.clone();
                return t;
            } catch (CloneNotSupportedException e) {
                throw new IllegalStateException(e);
            }
        }

        int drips(int x) { ran.add(10); return x + i; }
        int reddens(int x) { ran.add(11); return drips(x) - v; }
        int tells(int x) { ran.add(12); return reddens(x) * 2; }
        int gives(Model.All all) { return all.sum(this); }
    }

    private static class Grudge extends Thing {
        @Override int reddens(int x) { ran.add(20); return super.reddens(x) ^ 6; }
        @Override int gives(Model.All all) { return all.sum(this) + v; }
    }

    private static class Worry extends Thing {
        @Override int drips(int x) { ran.add(30); return super.drips(x * 3); }
        @Override int gives(Model.All all) { return all.sum(this) / 2; }
    }

    private static class Name extends Thing {
        @Override int tells(int x) { ran.add(40); return super.tells(x) + reddens(1); }
        @Override int gives(Model.All all) {
            for (Thing t : all.things) {
                if (t.i != i && t.whose == whose && t.state == 2) {
                    return 0;
                }
            }
            return all.sum(this);
        }
    }

    private static final class Clove extends Grudge {
        @Override int drips(int x) { ran.add(50); return -super.drips(x); }
        @Override int reddens(int x) { ran.add(51); return super.reddens(x + 1); }
        @Override int gives(Model.All all) { return super.gives(all) * (all.fire >= 6 ? 2 : 1); }
    }

    private static final class Secret extends Worry {
        @Override int tells(int x) { ran.add(60); return super.tells(x - i); }
        @Override int gives(Model.All all) { return super.gives(all) + Math.min(9, time); }
    }

    private static final class Told extends Name {
        @Override int reddens(int x) { ran.add(70); return super.reddens(x) + super.drips(2); }
        @Override int drips(int x) { ran.add(71); return super.drips(x) ^ v; }
        @Override int gives(Model.All all) { return super.gives(all) + row[all.minute % 4]; }
    }

    private static final class All {
        List<Thing> things = new ArrayList<>();
        int fire = 1, colour, minute;
        boolean set;
        String kitchen = "";
        List<int[]> seen = new ArrayList<>(), plan = new ArrayList<>(), book = new ArrayList<>();

        All twin() {
            All a = new All();
            for (Thing t : things) {
                a.things.add(t.twin());
            }
            a.fire = fire;
            a.colour = colour;
            a.minute = minute;
            a.set = set;
            a.kitchen = kitchen;
            a.seen.addAll(seen);
            a.plan.addAll(plan);
            a.book.addAll(book);
            return a;
        }

        int sum(Thing t) {
            int sum = t.weight;
            for (String clause : kitchen.split(";")) {
                if (clause.startsWith("dark") || clause.startsWith("clear")) {
                    String[] parts = clause.split(" ");
                    int n = Integer.parseInt(parts[1]);
                    if (holds(parts[2], t)) {
                        sum += clause.startsWith("dark") ? n : -n;
                    }
                }
            }
            return sum;
        }

        boolean holds(String e, Thing t) {
            List<String> parts = split(e, '|');
            if (parts.size() > 1) {
                return parts.stream().anyMatch(p -> holds(p, t));
            }
            parts = split(e, '&');
            if (parts.size() > 1) {
                return parts.stream().allMatch(p -> holds(p, t));
            }
            if (e.startsWith("!")) {
                return !holds(e.substring(1), t);
            }
            if (e.startsWith("(")) {
                return holds(e.substring(1, e.length() - 1), t);
            }
            int[] facts = {t.i, t.kind, t.v, t.weight, t.whose, minute % 10};
            int fact = facts["pkvwom".indexOf(e.charAt(0))];
            int n = Integer.parseInt(e.substring(2));
            return e.charAt(1) == '<' ? fact < n : e.charAt(1) == '=' ? fact == n : fact > n;
        }

        int need() {
            int need = 60;
            for (String clause : kitchen.split(";")) {
                if (clause.startsWith("need")) {
                    need = 10 * Integer.parseInt(clause.substring(5));
                }
            }
            return need;
        }

        int together() {
            return things.stream().filter(t -> t.state == 1).mapToInt(t -> t.gives(this)).sum();
        }

        void minute() {
            if (!set) {
                colour = Math.max(0, Math.min(99999, colour + fire * together()));
                if (colour >= need()) {
                    set = true;
                }
            }
            things.stream().filter(t -> t.state == 1).forEach(t -> t.time++);
            minute++;
        }

        void putIn(Thing t) {
            t.state = 1;
            t.time = 0;
        }

        void speak(Thing t) {
            t.state = 2;
            if (!set) {
                colour = Math.max(0, colour - 10 * t.weight);
            }
        }

        All after(int n) {
            All a = twin();
            for (int i = 0; i < n; i++) {
                a.minute();
            }
            return a;
        }

        int sets() {
            for (int n = 0; n <= 60; n++) {
                if (after(n).set) {
                    return n;
                }
            }
            return -5;
        }

        boolean asSeen() {
            return seen.stream().allMatch(s -> after(s[0]).colour == s[1]);
        }

        int bits(int state) {
            return things.stream().filter(t -> t.state == state).mapToInt(t -> 1 << t.i).sum();
        }

        int many(int state) {
            return (int) things.stream().filter(t -> t.state == state).count();
        }

        All with(Consumer<All> change) {
            All a = twin();
            change.accept(a);
            return a;
        }
    }

    private All now = new All();
    private All image;
    private final StringBuilder text = new StringBuilder();
    private final List<String> kitchens = new ArrayList<>();
    private List<Integer> ran = new ArrayList<>();
    private final Object[] tapes = new Object[6];

    private boolean none(int thing) {
        return thing < 0 || thing >= now.things.size();
    }

    private static boolean out(long n, long least, long most) {
        return n < least || n > most;
    }

    int thing(int kind, int v, int weight, int whose) {
        if (out(kind, 0, 6)) return -1;
        if (out(v, 0, 9) || out(weight, 0, 20) || out(whose, 0, 1)) return -2;
        if (now.things.size() == 6) return -4;
        Thing t = kind == 0 ? new Thing() : kind == 1 ? new Grudge() : kind == 2 ? new Worry() : kind == 3 ? new Name()
            : kind == 4 ? new Clove() : kind == 5 ? new Secret() : new Told();
        t.i = now.things.size();
        t.kind = kind;
        t.v = v;
        t.weight = weight;
        t.whose = whose;
        now.things.add(t);
        return t.i;
    }

    int of(int thing, int what) {
        if (none(thing) || out(what, 0, 7)) return -10001;
        Thing t = now.things.get(thing);
        int[] plain = {t.kind, t.v, t.weight, t.whose, t.state, t.time};
        if (what < 6) return plain[what];
        if (what == 6) return t.gives(now);
        int bits = 0;
        for (int n = 0; n <= 20; n++) {
            int weight = n;
            if (now.with(a -> a.things.get(thing).weight = weight).asSeen()) bits |= 1 << n;
        }
        return bits;
    }

    int put(int thing) {
        if (none(thing)) return -1;
        if (now.things.get(thing).state != 0) return -3;
        now.putIn(now.things.get(thing));
        return now.many(1);
    }

    int say(int thing) {
        if (none(thing)) return -1;
        if (now.things.get(thing).state == 2) return -3;
        now.speak(now.things.get(thing));
        return now.colour;
    }

    int weigh(int thing, int n) {
        if (none(thing)) return -1;
        if (out(n, 0, 20)) return -2;
        int was = now.things.get(thing).weight;
        now.things.get(thing).weight = n;
        return was;
    }

    int fire(int n) {
        if (out(n, 0, 9)) return -2;
        int was = now.fire;
        now.fire = n;
        return was;
    }

    int tip() {
        int were = now.many(1);
        now.things.stream().filter(t -> t.state == 1).forEach(t -> t.state = 0);
        now.colour = 0;
        now.set = false;
        return were;
    }

    int row(int thing, int part, int n) {
        if (none(thing) || out(part, 0, 3)) return -1;
        if (out(n, 0, 9)) return -2;
        if (now.things.get(thing).kind != 6) return -3;
        int was = now.things.get(thing).row[part];
        now.things.get(thing).row[part] = n;
        return was;
    }

    int feed(int sign) {
        if (out(sign, 0, 127)) return -2;
        if (text.length() == 100) return -4;
        text.append((char) sign);
        return text.length();
    }

    int kitchen() {
        if (kitchens.size() == 6) return -4;
        String read = text.toString();
        text.setLength(0);
        if (!isKitchen(read)) return -10 - fault(read);
        kitchens.add(read);
        now.kitchen = read;
        return kitchens.size() - 1;
    }

    /** The parts between the signs that stand in no brackets; none at all if the brackets do not match. */
    private static List<String> split(String e, char sign) {
        List<String> parts = new ArrayList<>();
        int depth = 0;
        int from = 0;
        for (int i = 0; i < e.length(); i++) {
            depth += e.charAt(i) == '(' ? 1 : e.charAt(i) == ')' ? -1 : 0;
            if (depth < 0) return List.of();
            if (e.charAt(i) == sign && depth == 0) {
                parts.add(e.substring(from, i));
                from = i + 1;
            }
        }
        parts.add(e.substring(from));
        return depth == 0 ? parts : List.of();
    }

    private static boolean isKitchen(String s) {
        String[] clauses = s.split(";", -1);
        if (clauses.length > 10) return false;
        for (String clause : clauses) {
            boolean needs = clause.matches("need [0-9]{1,2}");
            boolean adds = clause.matches("(dark|clear) [0-9]{1,2} [^ ]+");
            if (!needs && !(adds && isE(clause.split(" ")[2], 0))) return false;
        }
        return true;
    }

    private static boolean isE(String e, int within) {
        List<String> terms = split(e, '|');
        return !terms.isEmpty() && terms.stream().allMatch(t -> isT(t, within));
    }

    private static boolean isT(String e, int within) {
        List<String> factors = split(e, '&');
        return !factors.isEmpty() && factors.stream().allMatch(f -> isF(f, within));
    }

    private static boolean isF(String f, int within) {
        if (f.startsWith("!")) return within < 4 && isF(f.substring(1), within + 1);
        if (f.startsWith("(") && f.endsWith(")")) {
            return within < 4 && isE(f.substring(1, f.length() - 1), within + 1);
        }
        return f.matches("[pkvwom][<=>][0-9]{1,2}");
    }

    private static int fault(String s) {
        for (int n = s.length(); n > 0; n--) {
            if (canGoOn(s.substring(0, n))) return n;
        }
        return 0;
    }

    private static boolean canGoOn(String beginning) {
        for (String start : STARTS) {
            for (int i = 0; i <= start.length(); i++) {
                String longer = beginning + start.substring(i);
                for (int closed = 0; closed <= 4; closed++) {
                    if (isKitchen(longer)) return true;
                    longer += ")";
                }
            }
        }
        return false;
    }

    int told(int what) {
        switch (what) {
            case 0: return now.minute;
            case 1: return now.need();
            case 2: return now.fire;
            case 3: return now.colour;
            case 4: return now.set ? 1 : 0;
            case 5: return now.bits(1);
            case 6: return now.bits(2);
            case 7: return now.sets();
            case 8: return word();
            case 9: return now.together();
            default: return -10001;
        }
    }

    private int word() {
        long most = Integer.toUnsignedLong(now.sets());
        int word = -5;
        for (Thing t : now.things) {
            if (t.state != 2) {
                long sets = Integer.toUnsignedLong(now.with(a -> a.speak(a.things.get(t.i))).sets());
                if (sets > most) {
                    most = sets;
                    word = t.i;
                }
            }
        }
        return word;
    }

    int pass(int n) {
        if (out(n, 0, 60)) return -2;
        if (now.minute + n > 9999) return -3;
        now = now.after(n);
        return now.minute;
    }

    int on(int n, int what) {
        if (out(what, 0, 1)) return -1;
        if (out(n, 0, 60)) return -2;
        return what == 0 ? now.after(n).colour : now.after(n).set ? 1 : 0;
    }

    int best(int n, int k) {
        if (out(k, -1, 2)) return -1;
        if (out(n, 1, 3)) return -2;
        List<Integer> best = new ArrayList<>();
        int colour = tryRows(now, n, new ArrayList<>(), best);
        if (k == -1 || colour == -5) return colour;
        return k < best.size() ? best.get(k) : -5;
    }

    /** Leaves the best row of those that go on so in best; rows come in their order. */
    private static int tryRows(All all, int n, List<Integer> row, List<Integer> best) {
        if (row.size() == n) {
            best.addAll(row);
            return all.colour;
        }
        int most = -5;
        for (Thing t : all.things) {
            if (t.state == 0) {
                All next = all.with(a -> a.putIn(a.things.get(t.i))).after(1);
                List<Integer> longer = new ArrayList<>(row);
                longer.add(t.i);
                List<Integer> found = new ArrayList<>();
                int colour = tryRows(next, n, longer, found);
                if (colour > most) {
                    most = colour;
                    best.clear();
                    best.addAll(found);
                }
            }
        }
        return most;
    }

    int enough(int n) {
        if (out(n, 1, 12)) return -2;
        for (int size = 0; size <= 6; size++) {
            for (int bits = 0; bits < 64; bits++) {
                if (Integer.bitCount(bits) == size && (bits & ~now.bits(0)) == 0 && setWith(bits, n)) return bits;
            }
        }
        return -5;
    }

    private boolean setWith(int bits, int n) {
        return now.with(a -> a.things.stream().filter(t -> (bits >> t.i & 1) == 1).forEach(a::putIn)).after(n).set;
    }

    int flame(int n, int q) {
        if (out(n, 1, 20) || out(q, 0, 9999)) return -2;
        int best = -1;
        int least = Integer.MAX_VALUE;
        for (int f = 0; f <= 9; f++) {
            int fire = f;
            int far = Math.abs(now.with(a -> a.fire = fire).after(n).colour - q);
            if (far < least) {
                least = far;
                best = f;
            }
        }
        return best;
    }

    int see(int n, int colour) {
        if (n == -1) {
            now.seen.clear();
            return 0;
        }
        if (out(n, 0, 12) || out(colour, 0, 9999)) return -2;
        if (now.seen.size() == 5) return -4;
        now.seen.add(new int[] {n, colour});
        return now.seen.size();
    }

    int can(int thing, int what) {
        if (none(thing) || out(what, 0, 1)) return -1;
        List<Integer> firm = new ArrayList<>();
        for (int v = 0; v <= 9; v++) {
            int number = v;
            if (now.with(a -> a.things.get(thing).v = number).asSeen()) firm.add(v);
        }
        return what == 0 ? firm.size() : firm.isEmpty() ? -5 : firm.get(0);
    }

    long odds(int n, int part) {
        if (out(n, 0, 20) || out(part, 0, 1) || now.many(0) == 0) return NO;
        long good = now.things.stream().filter(t -> t.state == 0 && setWith(1 << t.i, n)).count();
        return lowest(good, now.many(0), part);
    }

    long mean(int part) {
        if (out(part, 0, 1) || now.many(1) == 0) return NO;
        return lowest(now.together(), now.many(1), part);
    }

    private static long lowest(long above, long below, int part) {
        for (long d = below; d > 1; d--) {
            if (above % d == 0 && below % d == 0) return (part == 0 ? above : below) / d;
        }
        return part == 0 ? above : below;
    }

    int plan(int what, int n) {
        if (what == -1) {
            now.plan.clear();
            return 0;
        }
        if (out(what, 0, 3) || (what == 1 || what == 2) && none(n)) return -1;
        if (what == 3 && out(n, 0, 9)) return -2;
        if (now.plan.size() == 10) return -4;
        now.plan.add(new int[] {what, n});
        return now.plan.size();
    }

    int ends(int what) {
        if (out(what, 0, 1)) return -1;
        All a = now.twin();
        for (int[] step : now.plan) {
            Thing t = step[0] == 1 || step[0] == 2 ? a.things.get(step[1]) : null;
            if (step[0] == 0) a.minute();
            if (step[0] == 1 && t.state == 0) a.putIn(t);
            if (step[0] == 2 && t.state != 2) a.speak(t);
            if (step[0] == 3) a.fire = step[1];
        }
        return what == 0 ? a.colour : a.bits(1);
    }

    int book(int thing, int weight) {
        if (thing == -1) {
            now.book.clear();
            return 0;
        }
        if (none(thing)) return -1;
        if (out(weight, 0, 20)) return -2;
        if (now.book.size() == 8) return -4;
        now.book.add(new int[] {thing, weight});
        return now.book.size();
    }

    int looked() {
        for (int[] row : now.book) {
            if (now.things.get(row[0]).weight != row[1]) return now.book.indexOf(row);
        }
        return -5;
    }

    int judge(int tape, int i) {
        if (out(tape, 0, 5)) return -1;
        if (tapes[tape] != null && !(tapes[tape] instanceof long[])) return -12;
        long[] times = tapes[tape] == null ? new long[0] : (long[]) tapes[tape];
        for (Thing t : now.things) {
            long at = (long) i + t.i;
            if (out(at, 0, times.length - 1L) || i < 0) return 100 + t.i;
            if (times[(int) at] != t.time) return t.i;
        }
        return -5;
    }

    int image() {
        image = now.twin();
        return now.things.size();
    }

    int undo() {
        if (image == null) return -3;
        now = image.twin();
        return now.things.size();
    }

    int act(int thing, int act, int x) {
        ran = new ArrayList<>();
        if (none(thing) || out(act, 0, 2)) return 0;
        Thing t = now.things.get(thing);
        t.ran = ran;
        return act == 0 ? t.drips(x) : act == 1 ? t.reddens(x) : t.tells(x);
    }

    int trace(int i) {
        return out(i, 0, Math.min(20, ran.size()) - 1) ? -1 : ran.get(i);
    }

    int taken(int thing, int k) {
        if (out(k, 0, 6)) return -2;
        if (none(thing)) return -11;
        Class<?>[] kinds = {
            Thing.class, Grudge.class, Worry.class, Name.class, Clove.class, Secret.class, Told.class};
        return kinds[k].isInstance(now.things.get(thing)) ? now.things.get(thing).kind : -12;
    }

    int count(int what) {
        if (out(what, 0, 6)) return -2;
        int[] counts = {now.things.size(), kitchens.size(), now.seen.size(), now.plan.size(), now.book.size(),
            text.length(), ran.size()};
        return counts[what];
    }

    int tape(int tape, int sort, int n) {
        if (out(tape, 0, 5)) return -1;
        if (sort == -1) {
            tapes[tape] = null;
            return 1;
        }
        if (out(sort, 0, 4) || n > 60) return -2;
        if (n < 0) return -14;
        tapes[tape] = sort == 0 ? new byte[n] : sort == 1 ? new short[n] : sort == 2 ? new int[n]
            : sort == 3 ? new long[n] : (Object) new boolean[n];
        return 1;
    }

    int item(int tape, int i, long v) {
        if (out(tape, 0, 5)) return -1;
        if (tapes[tape] == null) return -11;
        if (out(i, 0, java.lang.reflect.Array.getLength(tapes[tape]) - 1L)) return -13;
        Object t = tapes[tape];
        if (t instanceof byte[]) ((byte[]) t)[i] = (byte) v;
        if (t instanceof short[]) ((short[]) t)[i] = (short) v;
        if (t instanceof int[]) ((int[]) t)[i] = (int) v;
        if (t instanceof long[]) ((long[]) t)[i] = v;
        if (t instanceof boolean[]) ((boolean[]) t)[i] = v != 0;
        return 1;
    }

    long read(int tape, int i) {
        if (out(tape, 0, 5) || tapes[tape] == null) return NO;
        Object t = tapes[tape];
        if (out(i, 0, java.lang.reflect.Array.getLength(t) - 1L)) return NO;
        return t instanceof boolean[] ? (((boolean[]) t)[i] ? 1 : 0) : java.lang.reflect.Array.getLong(t, i);
    }

    int shift(int tape, int i, int other, int j, int n) {
        if (out(tape, 0, 5) || out(other, 0, 5)) return -1;
        if (tapes[tape] == null || tapes[other] == null) return -11;
        if (tapes[tape].getClass() != tapes[other].getClass()) return -12;
        try {
            System.arraycopy(tapes[tape], i, tapes[other], j, n);
        } catch (IndexOutOfBoundsException e) {
            return -13;
        }
        return n;
    }
}
