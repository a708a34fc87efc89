import java.lang.reflect.Method;
import java.util.ArrayList;
import java.util.Comparator;
import java.util.List;

/** Long runs of calls on QuinceEnd and on the Model at once; each answer must be the same. Always the same runs. */
public final class RandomRunsTest {
    private static final int RUNS = 400;
    private static final int CALLS = 512;
    private static long seed = 20261118;

    private static final List<Method> OURS = new ArrayList<>();
    private static final List<Method> THEIRS = new ArrayList<>();
    /** Limits of each argument, name by name: the least and the most that are mostly drawn. */
    private static final String[] RANGES = {
        "thing 0 6 0 9 0 20 0 1", "of 0 5 0 7", "put 0 5", "say 0 5", "weigh 0 5 0 20", "fire 0 9", "tip",
        "row 0 5 0 3 0 9", "feed 0 127", "kitchen", "told 0 9", "pass 0 6", "on 0 60 0 1", "best 1 3 -1 2",
        "enough 1 12", "flame 1 20 0 9999", "see -1 12 0 99", "can 0 5 0 1", "odds 0 20 0 1", "mean 0 1",
        "plan -1 3 0 9", "ends 0 1", "book -1 5 0 20", "looked", "judge 0 5 0 5", "image", "undo",
        "act 0 5 0 2 -9 9", "trace 0 14", "taken 0 5 0 6", "count 0 6", "tape 0 5 -1 4 0 60",
        "item 0 5 0 20 -300 300", "read 0 5 0 20", "shift 0 5 0 20 0 5 0 20 0 20"
    };

    public static void main(String[] args) throws Exception {
        findMethods();
        Due due = new Due();
        for (int run = 0; run < RUNS; run++) {
            runOnce(run, due);
        }
        due.end();
    }

    private static void findMethods() throws Exception {
        for (Method m : QuinceEnd.class.getDeclaredMethods()) {
            if (java.lang.reflect.Modifier.isPublic(m.getModifiers())) {
                OURS.add(m);
            }
        }
        OURS.sort(Comparator.comparing(Method::getName));
        for (Method m : OURS) {
            THEIRS.add(Model.class.getDeclaredMethod(m.getName(), m.getParameterTypes()));
        }
    }

    private static void runOnce(int run, Due due) throws Exception {
        QuinceEnd ours = new QuinceEnd();
        Model theirs = new Model();
        int left = CALLS;
        left -= begin(run, ours, theirs, due);
        while (left > 0) {
            if (draw(0, 39) == 0) {
                left -= feedText(run, ours, theirs, due);
            } else if (draw(0, 9) == 0) {
                left -= seeWhatWillBe(run, ours, theirs, due);
            } else {
                Method m = OURS.get(draw(0, OURS.size() - 1));
                if (m.getName().equals("undo") && draw(0, 3) != 0) {
                    continue;
                }
                compare(run, m, arguments(m), ours, theirs, due);
                left--;
            }
        }
    }

    /** Things first, in most runs, so that there is something to ask of. */
    private static int begin(int run, QuinceEnd ours, Model theirs, Due due) throws Exception {
        int things = draw(0, 6);
        for (int i = 0; i < things; i++) {
            compare(run, find("thing"), new Object[] {draw(0, 6), draw(0, 9), draw(0, 20), draw(0, 1)}, ours, theirs,
                due);
        }
        return things;
    }

    /** What is seen agrees with how things are, else no weight would ever be left. */
    private static int seeWhatWillBe(int run, QuinceEnd ours, Model theirs, Due due) throws Exception {
        int n = draw(0, 12);
        int colour = theirs.on(n, 0);
        compare(run, find("see"), new Object[] {n, colour}, ours, theirs, due);
        int thing = draw(0, 5);
        compare(run, find("of"), new Object[] {thing, 7}, ours, theirs, due);
        compare(run, find("can"), new Object[] {thing, 0}, ours, theirs, due);
        compare(run, find("can"), new Object[] {thing, 1}, ours, theirs, due);
        return 4;
    }

    private static int feedText(int run, QuinceEnd ours, Model theirs, Due due) throws Exception {
        StringBuilder text = new StringBuilder();
        int clauses = draw(1, draw(0, 9) == 0 ? 11 : 3);
        for (int i = 0; i < clauses; i++) {
            text.append(i == 0 ? "" : ";").append(clause());
        }
        if (draw(0, 2) == 0 && text.length() > 0) {
            spoil(text);
        }
        for (int i = 0; i < text.length(); i++) {
            compare(run, find("feed"), new Object[] {(int) text.charAt(i)}, ours, theirs, due);
        }
        compare(run, find("kitchen"), new Object[0], ours, theirs, due);
        return text.length() + 1;
    }

    private static void spoil(StringBuilder text) {
        int at = draw(0, text.length() - 1);
        int how = draw(0, 3);
        char sign = "darkcleneed pkvwom<=>0123456789()!&|; ".charAt(draw(0, 37));
        if (how == 0) {
            text.setCharAt(at, sign);
        } else if (how == 1) {
            text.deleteCharAt(at);
        } else if (how == 2) {
            text.insert(at, sign);
        } else {
            text.setLength(at);
        }
    }

    private static String clause() {
        if (draw(0, 3) == 0) {
            return "need " + number(draw(0, 3) == 0 ? 0 : 99);
        }
        return (draw(0, 1) == 0 ? "dark " : "clear ") + number(draw(0, 3) == 0 ? 99 : 20) + " " + anE(0);
    }

    private static String number(int most) {
        int n = draw(0, most);
        return n < 10 && draw(0, 3) == 0 ? "0" + n : "" + n;
    }

    private static String anE(int within) {
        StringBuilder e = new StringBuilder(factor(within));
        while (draw(0, 2) == 0) {
            e.append(draw(0, 1) == 0 ? "|" : "&").append(factor(within));
        }
        return e.toString();
    }

    private static String factor(int within) {
        int how = draw(0, 5);
        if (how == 0 && within < 5) {
            return "!" + factor(within + 1);
        }
        if (how == 1 && within < 5) {
            return "(" + anE(within + 1) + ")";
        }
        return "" + "pkvwom".charAt(draw(0, 5)) + "<=>".charAt(draw(0, 2)) + number(9);
    }

    private static Object[] arguments(Method m) {
        Class<?>[] types = m.getParameterTypes();
        String[] range = rangeOf(m.getName()).split(" ");
        Object[] arguments = new Object[types.length];
        for (int i = 0; i < types.length; i++) {
            long v = draw(Integer.parseInt(range[2 * i + 1]), Integer.parseInt(range[2 * i + 2]));
            int odd = draw(0, 29);
            if (odd == 0) {
                v = draw(0, 1) == 0 ? Integer.MIN_VALUE + draw(0, 2) : Integer.MAX_VALUE - draw(0, 2);
            } else if (odd == 1) {
                v = draw(0, 1) == 0 ? Long.parseLong(range[2 * i + 1]) - 1 : Long.parseLong(range[2 * i + 2]) + 1;
            } else if (odd == 2 && types[i] == long.class) {
                v = next();
            }
            if (types[i] == long.class) {
                arguments[i] = v;
            } else {
                arguments[i] = (int) v;
            }
        }
        return arguments;
    }

    private static String rangeOf(String name) {
        for (String range : RANGES) {
            if (range.equals(name) || range.startsWith(name + " ")) {
                return range;
            }
        }
        throw new IllegalStateException(name);
    }

    private static Method find(String name) {
        for (Method m : OURS) {
            if (m.getName().equals(name)) {
                return m;
            }
        }
        throw new IllegalStateException(name);
    }

    private static void compare(int run, Method m, Object[] arguments, QuinceEnd ours, Model theirs, Due due)
            throws Exception {
        long got = ((Number) m.invoke(ours, arguments)).longValue();
        long want = ((Number) THEIRS.get(OURS.indexOf(m)).invoke(theirs, arguments)).longValue();
        due.is("run " + run + ": " + m.getName() + java.util.Arrays.toString(arguments), got, want);
    }

    private static int draw(int least, int most) {
        return least + (int) Long.remainderUnsigned(next() >>> 20, most - least + 1L);
    }

    private static long next() {
        seed = seed * 6364136223846793005L + 1442695040888963407L;
        return seed;
    }
}
