/** Terms, part 2, sentence by sentence where one names a bound: what is told by hand, acts, THE TRACE, THE IMAGE. */
public final class TermsHandTest {
    private static final Due due = new Due();

    public static void main(String[] args) {
        seen();
        weights();
        can();
        plan();
        book();
        acts();
        trace();
        image();
        due.end();
    }

    private static void holds(String sentence, String rows) {
        Script.holds(due, sentence, rows);
    }

    private static void seen() {
        holds("SEEN: MINUTES n (0 .. 12) from now, COLOUR then (0 .. 9999)", """
            see(0, 0) 1
            see(12, 9999) 2
            see(13, 0) BAD
            see(-2, 0) BAD
            see(2147483647, 0) BAD
            see(-2147483648, 0) BAD
            see(0, -1) BAD
            see(0, 10000) BAD
            see(0, 2147483647) BAD
            see(0, -2147483648) BAD
            see(13, 10000) BAD
            count(2) 2
            """);
        holds("SEEN: 5 rows at most; BAD ahead of FULL", """
            thing(0, 0, 0, 0) 0
            see(1, 0) 1
            see(2, 0) 2
            see(3, 0) 3
            see(4, 0) 4
            see(5, 0) 5
            see(6, 0) FULL
            see(6, 7) FULL
            see(13, 0) BAD
            see(6, 10000) BAD
            count(2) 5
            of(0, 7) 2097151
            """);
        holds("n -1: none then, 0, whatever the other is", """
            see(-1, 0) 0
            5 x see(12, 9999)
            see(-1, -1) 0
            count(2) 0
            see(-1, 10000) 0
            see(4, 4) 1
            see(-1, 2147483647) 0
            see(4, 4) 1
            see(-1, -2147483648) 0
            count(2) 0
            see(4, 4) 1
            see(4, 4) 2
            """);
        holds("all of SEEN is so: the last row, too", """
            thing(0, 0, 5, 0) 0
            put(0) 1
            see(1, 5) 1
            see(2, 10) 2
            see(3, 15) 3
            see(4, 20) 4
            of(0, 7) 32
            see(12, 59) 5
            of(0, 7) 0
            can(0, 0) 0
            see(-1, 0) 0
            see(12, 60) 1
            see(0, 1) 2
            of(0, 7) 0
            """);
        holds("SEEN: from now, whenever it is asked", """
            thing(0, 0, 5, 0) 0
            put(0) 1
            see(2, 10) 1
            of(0, 7) 32
            pass(1) 1
            of(0, 7) 0
            weigh(0, 0) 5
            see(-1, 0) 0
            see(2, 7) 1
            of(0, 7) 2
            pass(60) 61
            of(0, 7) 2
            """);
    }

    private static void weights() {
        holds("WEIGHTS: those numbers 0 .. 20, as bits: the least alone, the greatest alone, all, none", """
            thing(0, 0, 7, 0) 0
            of(0, 7) 2097151
            put(0) 1
            of(0, 7) 2097151
            see(1, 0) 1
            of(0, 7) 1
            see(-1, 0) 0
            see(3, 60) 1
            of(0, 7) 1048576
            see(12, 60) 2
            of(0, 7) 1048576
            see(3, 61) 3
            of(0, 7) 0
            of(0, 2) 7
            """);
        holds("WEIGHTS of a THING that is not IN: all or none", """
            thing(0, 0, 7, 0) 0
            thing(0, 0, 3, 0) 1
            put(1) 1
            see(2, 6) 1
            of(0, 7) 2097151
            of(1, 7) 8
            say(0) 0
            of(0, 7) 2097151
            see(2, 7) 2
            of(0, 7) 0
            of(1, 7) 0
            """);
        holds("WEIGHTS when it is SET: COLOUR stays by each", """
            thing(0, 0, 20, 0) 0
            put(0) 1
            pass(3) 3
            see(0, 60) 1
            see(12, 60) 2
            of(0, 7) 2097151
            can(0, 0) 10
            see(1, 59) 3
            of(0, 7) 0
            """);
    }

    private static void can() {
        holds("CAN: how many numbers v (0 .. 9); the least: 0 alone, 9 alone, all, none (-5)", """
            thing(1, 4, 0, 0) 0
            can(0, 0) 10
            can(0, 1) 0
            put(0) 1
            see(1, 0) 1
            can(0, 0) 1
            can(0, 1) 0
            see(-1, 0) 0
            see(1, 9) 1
            can(0, 0) 1
            can(0, 1) 9
            see(1, 8) 2
            can(0, 0) 0
            can(0, 1) -5
            of(0, 1) 4
            """);
        holds("CAN: the least of several", """
            thing(1, 0, 1, 0) 0
            put(0) 1
            see(12, 60) 1
            can(0, 0) 3
            can(0, 1) 4
            see(6, 60) 2
            can(0, 0) 1
            can(0, 1) 9
            """);
        holds("CAN: what 0, 1", """
            thing(0, 0, 0, 0) 0
            can(0, -1) NONE
            can(0, 2) NONE
            can(0, 2147483647) NONE
            can(0, -2147483648) NONE
            can(1, 0) NONE
            can(-1, 1) NONE
            can(2147483647, 0) NONE
            can(-2147483648, 0) NONE
            can(0, 1) 0
            """);
    }

    private static void plan() {
        holds("PLAN: what goes (0 .. 3); by 0 n does not matter; FIRE by 3", """
            thing(0, 0, 1, 0) 0
            plan(-2, 0) NONE
            plan(4, 0) NONE
            plan(2147483647, 0) NONE
            plan(-2147483648, 0) NONE
            plan(0, 2147483647) 1
            plan(0, -2147483648) 2
            plan(0, -1) 3
            plan(1, 0) 4
            plan(1, 1) NONE
            plan(1, -1) NONE
            plan(1, 2147483647) NONE
            plan(1, -2147483648) NONE
            plan(2, 0) 5
            plan(2, 1) NONE
            plan(2, -1) NONE
            plan(3, 0) 6
            plan(3, 9) 7
            plan(3, 10) BAD
            plan(3, -1) BAD
            plan(3, 2147483647) BAD
            plan(3, -2147483648) BAD
            count(3) 7
            """);
        holds("PLAN: 10 rows at most; NONE and BAD ahead of FULL", """
            thing(0, 0, 1, 0) 0
            put(0) 1
            plan(0, 0) 1
            8 x plan(0, 0)
            count(3) 9
            plan(0, 0) 10
            ends(0) 10
            plan(0, 0) FULL
            plan(1, 0) FULL
            plan(2, 0) FULL
            plan(3, 9) FULL
            plan(4, 0) NONE
            plan(1, 1) NONE
            plan(2, -1) NONE
            plan(3, 10) BAD
            count(3) 10
            ends(0) 10
            ends(1) 1
            """);
        holds("what -1: it is empty then, 0, whatever the other is", """
            thing(0, 0, 1, 0) 0
            plan(-1, 0) 0
            10 x plan(1, 0)
            ends(1) 1
            plan(-1, 2147483647) 0
            count(3) 0
            ends(1) 0
            plan(1, 0) 1
            plan(-1, -2147483648) 0
            ends(1) 0
            plan(-1, 1) 0
            plan(0, 0) 1
            count(3) 1
            """);
        holds("ENDS: what 0 COLOUR, 1 which are IN; by an empty PLAN as it is", """
            thing(0, 0, 7, 0) 0
            ends(0) 0
            ends(1) 0
            put(0) 1
            pass(1) 1
            ends(0) 7
            ends(1) 1
            ends(-1) NONE
            ends(2) NONE
            ends(2147483647) NONE
            ends(-2147483648) NONE
            """);
        holds("PLAN: 1 a THING is PUT IN, if it is UNSAID: IN it stays, SAID it stays", """
            thing(5, 0, 0, 0) 0
            thing(0, 0, 9, 0) 1
            put(0) 1
            fire(0) 1
            pass(5) 5
            fire(1) 0
            say(1) 0
            plan(1, 0) 1
            plan(1, 1) 2
            plan(0, 0) 3
            ends(0) 5
            ends(1) 1
            tip() 1
            ends(0) 0
            ends(1) 1
            plan(0, 0) 4
            ends(0) 1
            of(0, 4) 0
            of(0, 5) 5
            """);
        holds("PLAN: 2 it is SAID, if it is not: once", """
            thing(0, 0, 5, 0) 0
            thing(0, 0, 1, 0) 1
            put(0) 1
            pass(5) 5
            plan(2, 1) 1
            ends(0) 15
            plan(2, 1) 2
            ends(0) 15
            ends(1) 1
            plan(2, 0) 3
            ends(0) 0
            ends(1) 0
            plan(1, 0) 4
            ends(1) 0
            say(1) 15
            plan(-1, 0) 0
            plan(2, 1) 1
            ends(0) 15
            """);
        holds("PLAN: 3 FIRE becomes n, from the next MINUTE on", """
            thing(0, 0, 1, 0) 0
            put(0) 1
            plan(3, 9) 1
            ends(0) 0
            plan(0, 0) 2
            ends(0) 9
            plan(3, 0) 3
            plan(0, 0) 4
            ends(0) 9
            told(2) 1
            told(0) 0
            """);
        holds("PLAN: it is SET on the way, and stays", """
            thing(0, 0, 20, 0) 0
            thing(0, 0, 3, 0) 1
            plan(1, 0) 1
            plan(0, 0) 2
            plan(0, 0) 3
            plan(2, 1) 4
            ends(0) 10
            plan(0, 0) 5
            plan(3, 2) 6
            plan(0, 0) 7
            ends(0) 70
            plan(0, 0) 8
            ends(0) 70
            plan(2, 0) 9
            ends(0) 70
            ends(1) 0
            told(4) 0
            """);
    }

    private static void book() {
        holds("BOOK: THINGS, WEIGHT (0 .. 20; 8 at most); NONE and BAD ahead of FULL", """
            thing(0, 0, 3, 0) 0
            thing(0, 0, 4, 0) 1
            book(0, 0) 1
            book(1, 20) 2
            book(2, 0) NONE
            book(-2, 0) NONE
            book(2147483647, 0) NONE
            book(-2147483648, 0) NONE
            book(0, 21) BAD
            book(0, -1) BAD
            book(0, 2147483647) BAD
            book(0, -2147483648) BAD
            book(2, 21) NONE
            4 x book(0, 3)
            book(0, 3) 7
            book(0, 3) 8
            book(0, 3) FULL
            book(1, 20) FULL
            book(2, 0) NONE
            book(0, 21) BAD
            count(4) 8
            """);
        holds("thing -1: it is empty then, 0, whatever the other is", """
            book(-1, 0) 0
            thing(0, 0, 3, 0) 0
            8 x book(0, 4)
            looked() 0
            book(-1, 21) 0
            count(4) 0
            looked() -5
            book(0, 4) 1
            book(-1, -1) 0
            book(0, 4) 1
            book(-1, 2147483647) 0
            book(0, 4) 1
            book(-1, -2147483648) 0
            count(4) 0
            """);
        holds("LOOKED at: the number of the first of these rows by which it is otherwise: the first, the last, none", """
            looked() -5
            thing(0, 0, 3, 0) 0
            thing(0, 0, 4, 1) 1
            looked() -5
            7 x book(0, 3)
            looked() -5
            book(1, 5) 8
            looked() 7
            weigh(1, 5) 4
            looked() -5
            weigh(0, 2) 3
            looked() 0
            weigh(0, 3) 2
            weigh(1, 6) 5
            looked() 7
            """);
        holds("LOOKED at: the first of several, in the rows' order", """
            6 x thing(0, 0, 20, 0)
            book(5, 20) 1
            book(5, 19) 2
            book(0, 0) 3
            looked() 1
            weigh(5, 19) 20
            looked() 0
            put(5) 1
            looked() 0
            """);
    }

    private static void acts() {
        holds("x (wrapping): THING", """
            thing(0, 0, 0, 0) 0
            thing(0, 9, 0, 0) 1
            act(0, 0, 2147483647) 2147483647
            act(1, 0, 2147483647) -2147483648
            act(0, 0, -2147483648) -2147483648
            act(1, 1, -2147483648) 2147483640
            act(0, 2, 1073741823) 2147483646
            act(0, 2, 1073741824) -2147483648
            act(0, 2, -1073741825) 2147483646
            act(1, 2, 2147483647) -18
            act(1, 1, 7) -1
            act(1, 1, -9992) -10000
            act(1, 1, -9993) -10001
            """);
        holds("x (wrapping): WORRY, SECRET", """
            thing(2, 0, 0, 0) 0
            thing(5, 0, 0, 0) 1
            act(0, 0, 2147483647) 2147483645
            act(0, 0, 1073741824) -1073741824
            act(0, 0, 715827882) 2147483646
            act(0, 0, 715827883) -2147483647
            act(1, 2, -2147483648) -4
            trace(0) 60
            trace(4) 10
            trace(5) NONE
            """);
        holds("x (wrapping): GRUDGE, CLOVE", """
            thing(4, 0, 0, 0) 0
            thing(4, 0, 0, 0) 1
            thing(1, 0, 0, 0) 2
            act(0, 0, -2147483648) -2147483648
            act(1, 0, 2147483647) -2147483648
            act(0, 0, 2147483647) -2147483647
            act(0, 1, 2147483647) -2147483642
            act(2, 1, 2147483647) -2147483641
            act(2, 1, 2147483645) 2147483641
            """);
        holds("x (wrapping): NAME, TOLD", """
            thing(3, 0, 0, 0) 0
            thing(3, 0, 0, 0) 1
            thing(3, 0, 0, 0) 2
            thing(6, 5, 0, 0) 3
            act(2, 2, 1073741821) -2147483647
            act(2, 2, 1073741820) 2147483647
            act(3, 0, 2147483645) -2147483643
            act(3, 0, 2147483644) 2147483642
            act(3, 1, -2147483646) -2147483648
            act(3, 1, 2147483644) 2147483642
            """);
        holds("an ACT (0 .. 2); 0, and no TRACE then: no such THING, act", """
            thing(0, 0, 0, 0) 0
            thing(0, 0, 0, 0) 1
            act(1, 2, 1) 4
            count(6) 3
            act(1, 3, 1) 0
            count(6) 0
            trace(0) NONE
            act(1, 0, 1) 2
            trace(0) 10
            act(1, -1, 1) 0
            trace(0) NONE
            act(1, 1, 1) 2
            trace(0) 11
            trace(1) 10
            act(1, 2147483647, 1) 0
            trace(0) NONE
            act(1, 0, 1) 2
            act(1, -2147483648, 1) 0
            trace(0) NONE
            act(1, 0, 1) 2
            act(2147483647, 0, 1) 0
            count(6) 0
            act(1, 0, 1) 2
            act(-2147483648, 0, 1) 0
            count(6) 0
            act(0, 1, 0) 0
            count(6) 2
            """);
        holds("ACTS change nothing but THE TRACE, whatever the STATE is", """
            thing(4, 3, 2, 0) 0
            act(0, 0, 5) -5
            put(0) 1
            act(0, 0, 5) -5
            say(0) 0
            act(0, 0, 5) -5
            of(0, 5) 0
            told(3) 0
            """);
    }

    private static void trace() {
        holds("THE TRACE: the longest that can be, 12; none beyond, nor below 0", """
            thing(6, 4, 0, 0) 0
            trace(0) NONE
            count(6) 0
            act(0, 2, 1) ?
            count(6) 12
            trace(0) 40
            trace(1) 12
            trace(2) 70
            trace(3) 11
            trace(4) 71
            trace(5) 10
            trace(6) 10
            trace(7) 70
            trace(8) 11
            trace(9) 71
            trace(10) 10
            trace(11) 10
            trace(12) NONE
            trace(19) NONE
            trace(20) NONE
            trace(21) NONE
            trace(-1) NONE
            trace(2147483647) NONE
            trace(-2147483648) NONE
            """);
        holds("THE TRACE: of the latest act() alone: none of a longer one is left", """
            thing(6, 4, 0, 0) 0
            thing(0, 0, 0, 0) 1
            act(0, 2, 1) ?
            act(1, 0, 1) 2
            count(6) 1
            trace(0) 10
            trace(1) NONE
            trace(11) NONE
            """);
        holds("THE TRACE stays till the next act()", """
            thing(0, 0, 0, 0) 0
            image() 1
            act(0, 1, 1) 1
            pass(3) 3
            undo() 1
            put(0) 1
            tip() 1
            kitchen "need 1" 0
            count(6) 2
            trace(0) 11
            trace(1) 10
            """);
    }

    private static void image() {
        holds("undo: STATE: there is none", """
            undo() STATE
            thing(0, 0, 0, 0) 0
            undo() STATE
            count(0) 1
            image() 1
            undo() 1
            undo() 1
            """);
        holds("THE IMAGE of no THINGS", """
            image() 0
            6 x thing(0, 0, 0, 0)
            put(0) 1
            plan(1, 5) 1
            book(5, 0) 1
            undo() 0
            count(0) 0
            count(3) 0
            count(4) 0
            told(5) 0
            of(0, 0) NONE
            thing(6, 1, 2, 1) 0
            of(0, 4) 0
            """);
        holds("THE IMAGE of six THINGS, and the newest image counts", """
            image() 0
            6 x thing(0, 0, 1, 0)
            image() 6
            put(5) 1
            undo() 6
            told(5) 0
            thing(0, 0, 0, 0) FULL
            put(0) 1
            image() 6
            put(1) 2
            undo() 6
            told(5) 1
            """);
        holds("a THING that comes behind undo() is new: its STATE, TIME, ROW", """
            image() 0
            thing(6, 9, 20, 1) 0
            row(0, 0, 9) 0
            row(0, 1, 8) 0
            row(0, 2, 7) 0
            row(0, 3, 6) 0
            put(0) 1
            pass(1) 1
            say(0) 0
            undo() 0
            thing(6, 1, 2, 0) 0
            of(0, 1) 1
            of(0, 2) 2
            of(0, 3) 0
            of(0, 4) 0
            of(0, 5) 0
            of(0, 6) 2
            row(0, 0, 0) 0
            row(0, 1, 0) 0
            row(0, 2, 0) 0
            row(0, 3, 0) 0
            """);
        holds("THE IMAGE: THINGS with all that is theirs", """
            thing(6, 9, 3, 1) 0
            thing(5, 1, 4, 0) 1
            row(0, 0, 1) 0
            row(0, 1, 2) 0
            row(0, 2, 3) 0
            row(0, 3, 4) 0
            put(1) 1
            pass(4) 4
            image() 2
            row(0, 0, 9) 1
            row(0, 1, 9) 2
            row(0, 2, 9) 3
            row(0, 3, 9) 4
            weigh(0, 20) 3
            put(0) 2
            say(1) 0
            pass(3) 7
            undo() 2
            of(0, 0) 6
            of(0, 1) 9
            of(0, 2) 3
            of(0, 3) 1
            of(0, 4) 0
            of(0, 5) 0
            of(0, 6) 4
            of(1, 4) 1
            of(1, 5) 4
            row(0, 1, 5) 2
            row(0, 2, 5) 3
            row(0, 3, 5) 4
            """);
        holds("THE IMAGE: FIRE, COLOUR, whether it is SET, MINUTE", """
            thing(0, 0, 20, 0) 0
            put(0) 1
            fire(3) 1
            pass(2) 2
            image() 1
            tip() 1
            fire(9) 3
            pass(5) 7
            undo() 1
            told(0) 2
            told(2) 3
            told(3) 60
            told(4) 1
            told(5) 1
            tip() 1
            image() 1
            put(0) 1
            pass(1) 3
            told(4) 1
            undo() 1
            told(4) 0
            told(3) 0
            """);
        holds("THE IMAGE: MINUTE 9999 may be left again", """
            image() 0
            166 x pass(60)
            pass(39) 9999
            pass(1) STATE
            undo() 0
            told(0) 0
            pass(1) 1
            """);
        holds("THE IMAGE: SEEN, the PLAN, the BOOK: full and empty", """
            thing(0, 0, 1, 0) 0
            image() 1
            5 x see(1, 1)
            10 x plan(1, 0)
            8 x book(0, 2)
            undo() 1
            count(2) 0
            count(3) 0
            count(4) 0
            of(0, 7) 2097151
            ends(1) 0
            looked() -5
            5 x see(1, 1)
            10 x plan(1, 0)
            8 x book(0, 2)
            image() 1
            see(-1, 0) 0
            plan(-1, 0) 0
            book(-1, 0) 0
            5 x see(0, 0)
            10 x plan(2, 0)
            8 x book(0, 1)
            undo() 1
            count(2) 5
            count(3) 10
            count(4) 8
            of(0, 7) 0
            ends(1) 1
            looked() 0
            see(0, 0) FULL
            plan(0, 0) FULL
            book(0, 0) FULL
            """);
        holds("THE IMAGE: which KITCHEN holds; how many there are stays", """
            thing(0, 0, 1, 0) 0
            image() 1
            kitchen "need 1;dark 2 p=0" 0
            kitchen "need 2;dark 4 p=0" 1
            undo() 1
            told(1) 60
            of(0, 6) 1
            count(1) 2
            kitchen "need 3;dark 8 p=0" 2
            image() 1
            kitchen "need 4" 3
            kitchen "need 5" 4
            undo() 1
            told(1) 30
            of(0, 6) 9
            kitchen "need 6" 5
            undo() 1
            told(1) 30
            count(1) 6
            kitchen "need 7" FULL
            told(1) 30
            """);
        holds("what is not of THE IMAGE stays: THE TEXT, TAPES", """
            image() 0
            feed "need" 4
            tape(0, 2, 3) 1
            item(0, 2, 7) 1
            undo() 0
            count(5) 4
            read(0, 2) 7
            feed " 2" 6
            kitchen() 0
            told(1) 20
            """);
    }
}
