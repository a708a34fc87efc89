import java.util.ArrayList;
import java.util.List;
import java.util.Set;

/**
 * A sentence of the document, held to by rows of calls on a new object, each with the answer that is due. Rows:
 * "weigh(0, 20) 7"; a call and "?" where the answer is free; "9 x pass(60)"; feed "abc" and kitchen "abc", which feed
 * a whole text first. What is due may be a word, NONE and its like: then the call is refused. "-10-7" is -10 less 7.
 *
 * The rows are run twice, the second time without those that are refused and those that only ask: both objects must
 * show the same in the end, as what is refused and what is asked changes nothing.
 */
final class Script {
    private static final Set<String> ASKING = Set.of("of", "told", "on", "best", "enough", "flame", "can", "odds",
        "mean", "ends", "looked", "judge", "trace", "taken", "count", "read");

    private Script() {
    }

    static void holds(Due due, String sentence, String rows) {
        Calls all = new Calls();
        Calls needed = new Calls();
        for (String told : rows.split("\n")) {
            String row = told.trim();
            if (row.isEmpty() || row.startsWith("#")) {
                continue;
            }
            String want = row.substring(row.lastIndexOf(' ') + 1);
            List<String> calls = callsOf(row);
            long got = answerLast(all, calls);
            String last = calls.get(calls.size() - 1);
            if (!want.equals("?") && !isMany(row)) {
                due.is("\"" + sentence + "\": " + row + ": " + last, got, number(want, last));
            }
            if (!isWord(want) && !ASKING.contains(nameOf(last))) {
                answerLast(needed, calls);
            } else if (calls.size() > 1) {
                answerLast(needed, calls.subList(0, calls.size() - 1));
            }
        }
        List<String> shown = all.shows();
        List<String> wanted = needed.shows();
        for (int i = 0; i < Math.max(shown.size(), wanted.size()); i++) {
            String one = i < shown.size() ? shown.get(i) : "nothing more";
            String other = i < wanted.size() ? wanted.get(i) : "nothing more";
            due.same("\"" + sentence + "\": behind what is refused or asked", one, other);
        }
        due.is("\"" + sentence + "\": calls beyond those promised", Math.max(0, all.made() - Calls.MOST), 0);
    }

    private static List<String> callsOf(String row) {
        List<String> calls = new ArrayList<>();
        if (row.startsWith("feed \"") || row.startsWith("kitchen \"")) {
            String text = row.substring(row.indexOf('"') + 1, row.lastIndexOf('"'));
            for (int i = 0; i < text.length(); i++) {
                calls.add("feed(" + (int) text.charAt(i) + ")");
            }
            if (row.startsWith("kitchen")) {
                calls.add("kitchen()");
            }
        } else if (isMany(row)) {
            int times = Integer.parseInt(row.substring(0, row.indexOf(' ')));
            for (int i = 0; i < times; i++) {
                calls.add(row.substring(row.indexOf(" x ") + 3));
            }
        } else {
            calls.add(row.substring(0, row.indexOf(')') + 1));
        }
        return calls;
    }

    private static long answerLast(Calls x, List<String> calls) {
        long answer = 0;
        for (String call : calls) {
            answer = x.answer(call);
        }
        return answer;
    }

    private static String nameOf(String call) {
        return call.substring(0, call.indexOf('('));
    }

    private static boolean isMany(String row) {
        return row.matches("[0-9]+ x .*");
    }

    private static boolean isWord(String want) {
        return Character.isUpperCase(want.charAt(0));
    }

    private static long number(String want, String call) {
        switch (want) {
            case "NONE": return nameOf(call).equals("of") || nameOf(call).equals("told") ? -10001 : -1;
            case "BAD": return -2;
            case "STATE": return -3;
            case "FULL": return -4;
            case "NOTHING": return -11;
            case "CAST": return -12;
            case "PLACE": return -13;
            case "SIZE": return -14;
            case "NO": return Long.MIN_VALUE;
            default: return want.startsWith("-10-") ? -10 - Long.parseLong(want.substring(4)) : Long.parseLong(want);
        }
    }
}
