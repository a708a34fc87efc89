import java.util.ArrayList;
import java.util.List;

/**
 * The end of the Terms: the first answer that a call's words name is given; what is answered so changes nothing; what
 * is asked changes nothing. Each call is tried alone, in several states, beside an object on which it is not tried.
 */
public final class AnswersTest {
    private static final Due due = new Due();

    private static final String USUAL = """
        thing(6, 3, 4, 0) 0
        thing(1, 5, 2, 1) 1
        thing(5, 2, 6, 0) 2
        thing(3, 1, 3, 1) 3
        row(0, 1, 7) 0
        put(1) 1
        put(2) 2
        fire(2) 1
        kitchen "dark 3 k=1&m<4;clear 2 w>5;need 9" 0
        pass(3) 3
        say(3) ?
        see(0, 40) 1
        see(2, 80) 2
        plan(1, 0) 1
        plan(0, 0) 2
        plan(3, 7) 3
        plan(0, 0) 4
        book(0, 4) 1
        book(2, 5) 2
        tape(0, 0, 3) 1
        tape(1, 3, 4) 1
        item(1, 1, 3) 1
        item(0, 2, 200) 1
        tape(2, 3, 0) 1
        image() 4
        pass(1) 4
        weigh(0, 9) 4
        act(0, 1, 5) ?
        feed "need" 4
        """;

    private static final String FULL = """
        thing(6, 3, 4, 0) 0
        thing(6, 5, 2, 1) 1
        thing(5, 2, 6, 0) 2
        thing(3, 1, 3, 1) 3
        thing(0, 0, 0, 0) 4
        thing(4, 9, 20, 1) 5
        put(0) 1
        5 x see(1, 4)
        9 x plan(0, 0)
        plan(1, 5) 10
        7 x book(0, 4)
        book(5, 19) 8
        kitchen "need 0" 0
        kitchen "need 1" 1
        kitchen "need 2" 2
        kitchen "need 3" 3
        kitchen "need 4" 4
        kitchen "need 5" 5
        act(0, 2, 1) ?
        tape(0, 4, 60) 1
        item(0, 59, 5) 1
        tape(5, 4, 60) 1
        image() 6
        99 x feed(120)
        feed(59) 100
        """;

    private static final String LATE = """
        thing(5, 3, 20, 0) 0
        thing(3, 5, 2, 1) 1
        put(0) 1
        166 x pass(60)
        pass(39) 9999
        say(1) 60
        told(4) 1
        """;

    public static void main(String[] args) {
        refusedInANewOne();
        refusedInUse();
        refusedWhenFull();
        refusedWhenLate();
        noNumbers();
        named();
        lastCallPromised();
        for (String state : new String[] {"", USUAL, FULL, LATE}) {
            asked(state);
        }
        due.end();
    }

    private static void eachAlone(String where, String state, String rows) {
        for (String row : rows.split("\n")) {
            Script.holds(due, where + ": " + row.trim(), state + row.trim());
        }
    }

    private static void refusedInANewOne() {
        eachAlone("a new one", "", """
            thing(7, 0, 0, 0) NONE
            thing(0, 10, 0, 0) BAD
            of(0, 0) NONE
            put(0) NONE
            say(0) NONE
            weigh(0, 0) NONE
            fire(10) BAD
            row(0, 0, 0) NONE
            feed(128) BAD
            told(10) NONE
            pass(61) BAD
            on(0, 2) NONE
            on(61, 0) BAD
            best(1, 3) NONE
            best(4, 0) BAD
            enough(13) BAD
            flame(21, 0) BAD
            see(13, 0) BAD
            can(0, 0) NONE
            odds(0, 0) NO
            mean(0) NO
            plan(4, 0) NONE
            plan(1, 0) NONE
            plan(3, 10) BAD
            ends(2) NONE
            book(0, 0) NONE
            judge(6, 0) NONE
            undo() STATE
            trace(0) NONE
            taken(0, 7) BAD
            taken(0, 0) NOTHING
            count(7) BAD
            tape(6, 0, 0) NONE
            tape(0, 5, 0) BAD
            tape(0, 0, -1) SIZE
            item(6, 0, 0) NONE
            item(0, 0, 0) NOTHING
            read(0, 0) NO
            shift(0, 0, 6, 0, 0) NONE
            shift(0, 0, 1, 0, 0) NOTHING
            """);
    }

    private static void refusedInUse() {
        eachAlone("in use", USUAL, """
            thing(-1, 0, 0, 0) NONE
            thing(0, 0, 21, 0) BAD
            thing(0, 0, 0, 2) BAD
            of(4, 0) NONE
            of(0, 8) NONE
            put(4) NONE
            put(1) STATE
            put(3) STATE
            say(4) NONE
            say(3) STATE
            weigh(4, 0) NONE
            weigh(0, 21) BAD
            weigh(0, -1) BAD
            fire(-1) BAD
            row(4, 0, 0) NONE
            row(0, 4, 0) NONE
            row(0, 0, 10) BAD
            row(1, 0, 0) STATE
            feed(-1) BAD
            told(-1) NONE
            pass(-1) BAD
            on(61, 1) BAD
            on(1, -1) NONE
            best(2, -2) NONE
            best(0, 0) BAD
            enough(0) BAD
            flame(1, 10000) BAD
            see(0, 10000) BAD
            see(-2, 0) BAD
            can(0, 2) NONE
            can(4, 0) NONE
            odds(21, 0) NO
            odds(1, 2) NO
            mean(2) NO
            plan(-2, 0) NONE
            plan(2, 4) NONE
            plan(3, -1) BAD
            ends(-1) NONE
            book(4, 0) NONE
            book(-2, 0) NONE
            book(0, 21) BAD
            judge(-1, 0) NONE
            judge(0, 0) CAST
            trace(-1) NONE
            trace(5) NONE
            taken(1, -1) BAD
            taken(4, 0) NOTHING
            taken(1, 2) CAST
            count(-1) BAD
            tape(-1, 3, 4) NONE
            tape(1, 5, 4) BAD
            tape(1, 3, 61) BAD
            tape(1, 3, -1) SIZE
            item(-1, 0, 5) NONE
            item(3, 0, 5) NOTHING
            item(1, 4, 5) PLACE
            item(1, -1, 5) PLACE
            item(2, 0, 5) PLACE
            read(1, 4) NO
            read(3, 0) NO
            shift(-1, 0, 1, 0, 1) NONE
            shift(3, 0, 1, 0, 1) NOTHING
            shift(1, 0, 0, 0, 1) CAST
            shift(1, 0, 1, 1, 4) PLACE
            shift(1, 1, 1, 0, 4) PLACE
            shift(1, 1, 1, 0, -1) PLACE
            shift(1, 1, 2, 0, 1) PLACE
            """);
    }

    private static void refusedWhenFull() {
        eachAlone("when all is full", FULL, """
            thing(0, 0, 0, 0) FULL
            thing(6, 9, 20, 1) FULL
            thing(7, 0, 0, 0) NONE
            thing(0, 10, 0, 0) BAD
            feed(59) FULL
            feed(0) FULL
            feed(128) BAD
            kitchen() FULL
            see(0, 0) FULL
            see(13, 0) BAD
            plan(0, 0) FULL
            plan(1, 0) FULL
            plan(2, 5) FULL
            plan(3, 9) FULL
            plan(1, 6) NONE
            plan(3, 10) BAD
            book(0, 4) FULL
            book(5, 20) FULL
            book(6, 0) NONE
            book(0, 21) BAD
            put(6) NONE
            put(0) STATE
            item(0, 60, 0) PLACE
            shift(0, 1, 5, 0, 60) PLACE
            tape(5, 4, 61) BAD
            """);
    }

    private static void refusedWhenLate() {
        eachAlone("at the last MINUTE", LATE, """
            pass(1) STATE
            pass(60) STATE
            pass(61) BAD
            pass(-1) BAD
            say(1) STATE
            put(1) STATE
            put(0) STATE
            undo() STATE
            odds(0, 0) NO
            """);
    }

    private static void noNumbers() {
        Script.holds(due, "told: what 0 .. 9; -10001: NONE", """
            told(0) 0
            told(9) 0
            told(-1) NONE
            told(10) NONE
            told(2147483647) NONE
            told(-2147483648) NONE
            """);
        Script.holds(due, "count: 0 .. 6; BAD", """
            count(0) 0
            count(6) 0
            count(-1) BAD
            count(7) BAD
            count(2147483647) BAD
            count(-2147483648) BAD
            """);
        Script.holds(due, "-10001 stands for NONE only where it may be below 0", """
            thing(0, 0, 0, 0) 0
            of(0, 9) NONE
            told(11) NONE
            on(0, 3) NONE
            can(0, 3) NONE
            ends(3) NONE
            best(1, 4) NONE
            trace(3) NONE
            judge(7, 0) NONE
            """);
        due.is("NONE of of", new Calls().answer("of(0, 0)"), -10001);
        due.is("NONE of told", new Calls().answer("told(10)"), -10001);
        due.is("NONE of put", new Calls().answer("put(0)"), -1);
        due.is("NONE of can", new Calls().answer("can(0, 0)"), -1);
        due.is("NONE of ends", new Calls().answer("ends(2)"), -1);
        due.is("NONE of on", new Calls().answer("on(0, 2)"), -1);
    }

    /** Calls with several wrong numbers at once. */
    private static void named() {
        eachAlone("the first that a call's words name", FULL, """
            thing(7, 10, 21, 2) NONE
            thing(0, 10, 21, 2) BAD
            thing(0, 0, 0, -1) BAD
            weigh(6, 21) NONE
            row(6, 4, 10) NONE
            row(6, 0, 10) NONE
            row(0, 4, 10) NONE
            row(3, 4, 0) NONE
            row(3, 0, 10) BAD
            row(3, 0, 9) STATE
            feed(-1) BAD
            on(61, 2) NONE
            best(4, 3) NONE
            best(0, -2) NONE
            see(13, 10000) BAD
            see(0, 10000) BAD
            plan(4, 99) NONE
            plan(1, 99) NONE
            plan(3, 99) BAD
            book(6, 21) NONE
            book(0, 21) BAD
            can(6, 2) NONE
            of(6, 8) NONE
            judge(6, -1) NONE
            judge(0, -1) CAST
            taken(6, 7) BAD
            taken(6, 6) NOTHING
            tape(6, 5, 61) NONE
            tape(6, 0, -1) NONE
            tape(0, 5, -1) BAD
            tape(0, 5, 61) BAD
            item(6, 60, 0) NONE
            item(1, 60, 0) NOTHING
            shift(6, -1, 1, -1, -1) NONE
            shift(1, -1, 6, -1, -1) NONE
            shift(1, -1, 0, -1, -1) NOTHING
            shift(0, -1, 1, -1, -1) NOTHING
            shift(0, -1, 5, -1, -1) PLACE
            """);
        eachAlone("the first that a call's words name: CAST ahead of PLACE", USUAL, """
            shift(0, -1, 1, -1, -1) CAST
            shift(0, 3, 2, 0, 1) CAST
            """);
        eachAlone("BAD ahead of STATE", LATE, "pass(61) BAD");
    }

    private static void lastCallPromised() {
        Calls x = new Calls();
        x.answer("thing(0, 0, 20, 0)");
        x.answer("put(0)");
        while (x.made() < Calls.MOST - 4) {
            x.answer("pass(0)");
            x.answer("weigh(0, 21)");
        }
        due.is("call 509", x.answer("pass(2)"), 2);
        due.is("call 510", x.answer("told(3)"), 40);
        due.is("call 511", x.answer("put(0)"), -3);
        due.is("call 512", x.answer("told(7)"), 1);
        due.is("calls made", x.made(), Calls.MOST);
    }

    /** Every call that asks, with all that it may be asked and what is beyond on either side. */
    private static void asked(String state) {
        String[] ranges = {"of -1 6 -1 8", "told -1 10", "on -1 61 -1 2", "best 0 4 -2 3", "enough 0 13", "can -1 6 -1 2",
            "odds -1 21 -1 2", "mean -1 2", "ends -1 2", "judge -1 6 -1 5", "trace -1 20", "taken -1 6 -1 7",
            "count -1 7", "read -1 6 -1 5"};
        for (String range : ranges) {
            askAll(state, range.split(" "));
        }
        askAll(state, "looked".split(" "));
        StringBuilder rows = new StringBuilder(state);
        for (int n = 0; n <= 21; n++) {
            rows.append("flame(" + n + ", 0) ?\nflame(" + n + ", 9999) ?\nflame(" + n + ", 77) ?\n");
        }
        Script.holds(due, "what is asked changes nothing: flame", rows.toString());
    }

    private static void askAll(String state, String[] range) {
        List<String> asked = new ArrayList<>();
        if (range.length == 1) {
            asked.add(range[0] + "()");
        } else {
            for (int n = Integer.parseInt(range[1]); n <= Integer.parseInt(range[2]); n++) {
                if (range.length == 3) {
                    asked.add(range[0] + "(" + n + ")");
                    continue;
                }
                for (int m = Integer.parseInt(range[3]); m <= Integer.parseInt(range[4]); m++) {
                    asked.add(range[0] + "(" + n + ", " + m + ")");
                }
            }
        }
        int atOnce = 60;
        for (int from = 0; from < asked.size(); from += atOnce) {
            StringBuilder rows = new StringBuilder(state);
            for (String call : asked.subList(from, Math.min(asked.size(), from + atOnce))) {
                rows.append(call).append(" ?\n");
            }
            Script.holds(due, "what is asked changes nothing: " + range[0], rows.toString());
        }
    }
}
