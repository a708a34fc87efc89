/** Terms, part 2, sentence by sentence where one names a bound: what would be, if minutes went or things were put in. */
public final class TermsAskedTest {
    private static final Due due = new Due();

    public static void main(String[] args) {
        beyond();
        on();
        sets();
        row();
        enough();
        flame();
        word();
        odds();
        mean();
        due.end();
    }

    private static void holds(String sentence, String rows) {
        Script.holds(due, sentence, rows);
    }

    private static void beyond() {
        holds("goes on from how all is (MINUTES beyond 9999, too): ON", """
            thing(6, 0, 0, 0) 0
            row(0, 3, 5) 0
            row(0, 0, 7) 0
            put(0) 1
            fire(0) 1
            166 x pass(60)
            pass(39) 9999
            fire(1) 0
            of(0, 6) 5
            on(1, 0) 5
            on(2, 0) 12
            on(4, 0) 12
            on(5, 0) 17
            kitchen "dark 9 m=0;dark 1 m=9;need 99" 0
            on(1, 0) 6
            on(2, 0) 22
            on(11, 0) 47
            on(12, 0) 56
            told(0) 9999
            pass(1) STATE
            """);
        holds("MINUTES beyond 9999, too: SETS, ROW, ENOUGH, FLAME, ODDS, SEEN, ENDS", """
            thing(0, 0, 0, 0) 0
            thing(0, 0, 0, 0) 1
            166 x pass(60)
            pass(39) 9999
            kitchen "dark 30 m=0;dark 10 m=1&p=1;need 6" 0
            best(1, -1) 0
            best(2, -1) 60
            best(2, 0) 0
            best(3, -1) -5
            enough(1) -5
            enough(2) 3
            odds(2, 0) 0
            odds(12, 0) 1
            odds(12, 1) 1
            odds(11, 0) 0
            plan(1, 1) 1
            plan(0, 0) 2
            plan(0, 0) 3
            plan(0, 0) 4
            ends(0) 40
            put(1) 1
            told(7) 12
            flame(2, 9999) 9
            flame(1, 9999) 0
            see(0, 0) 1
            see(1, 0) 2
            see(2, 30) 3
            see(3, 40) 4
            see(12, 70) 5
            of(1, 7) 1
            can(1, 0) 10
            told(0) 9999
            """);
    }

    private static void on() {
        holds("ON n MINUTES (0 .. 60): COLOUR; whether it is SET", """
            thing(0, 0, 1, 0) 0
            put(0) 1
            on(0, 0) 0
            on(0, 1) 0
            on(1, 0) 1
            on(59, 0) 59
            on(59, 1) 0
            on(60, 0) 60
            on(60, 1) 1
            on(61, 0) BAD
            on(61, 1) BAD
            on(-1, 0) BAD
            on(-1, 1) BAD
            on(2147483647, 0) BAD
            on(-2147483648, 0) BAD
            on(0, 2) NONE
            on(0, -1) NONE
            on(0, 2147483647) NONE
            on(0, -2147483648) NONE
            on(61, 2) NONE
            on(-1, -1) NONE
            pass(1) 1
            on(58, 1) 0
            on(59, 0) 60
            on(59, 1) 1
            on(60, 0) 60
            """);
        holds("ON 0 MINUTES: how it is now, SET too", """
            thing(0, 0, 20, 0) 0
            put(0) 1
            pass(3) 3
            on(0, 0) 60
            on(0, 1) 1
            on(60, 0) 60
            on(60, 1) 1
            kitchen "need 99" 0
            on(0, 1) 1
            on(60, 0) 60
            """);
    }

    private static void sets() {
        holds("SETS: the fewest MINUTES (0 .. 60): the 60th is still told, the 61st is not (-5)", """
            thing(0, 0, 10, 0) 0
            told(7) -5
            put(0) 1
            kitchen "need 60" 0
            told(7) 60
            kitchen "need 60;clear 1 m=0" 1
            told(7) -5
            on(60, 1) 0
            pass(1) 1
            told(3) 9
            told(7) 60
            on(60, 1) 1
            on(59, 1) 0
            """);
        holds("SETS: 0, if it is SET; 1, if the next MINUTE does it", """
            thing(0, 0, 20, 0) 0
            put(0) 1
            told(7) 3
            pass(2) 2
            told(7) 1
            pass(1) 3
            told(7) 0
            pass(1) 4
            told(7) 0
            say(0) 60
            told(7) 0
            tip() 0
            told(7) -5
            """);
    }

    private static void row() {
        holds("ROW of n (1 .. 3); k -1 .. 2", """
            6 x thing(0, 0, 5, 0)
            best(0, -1) BAD
            best(4, -1) BAD
            best(2147483647, -1) BAD
            best(-2147483648, -1) BAD
            best(1, -2) NONE
            best(1, 3) NONE
            best(1, 2147483647) NONE
            best(1, -2147483648) NONE
            best(0, 3) NONE
            best(4, -2) NONE
            best(1, -1) 5
            best(1, 0) 0
            best(1, 1) -5
            best(1, 2) -5
            best(2, -1) 15
            best(2, 0) 0
            best(2, 1) 1
            best(2, 2) -5
            best(3, -1) 30
            best(3, 0) 0
            best(3, 1) 1
            best(3, 2) 2
            """);
        holds("ROW: -5, both: there are fewer than n", """
            best(1, -1) -5
            best(1, 0) -5
            best(1, 1) -5
            thing(0, 0, 5, 0) 0
            best(1, -1) 5
            best(2, -1) -5
            best(2, 0) -5
            best(2, 1) -5
            thing(0, 0, 6, 0) 1
            best(2, -1) 17
            best(2, 0) 1
            best(2, 1) 0
            best(3, -1) -5
            best(3, 0) -5
            best(3, 1) -5
            best(3, 2) -5
            thing(0, 0, 7, 0) 2
            best(3, -1) 38
            best(3, 0) 2
            best(3, 1) 1
            best(3, 2) 0
            put(2) 1
            best(3, -1) -5
            best(2, -1) 31
            best(2, 0) 1
            say(1) 0
            best(2, -1) -5
            best(1, -1) 12
            best(1, 0) 0
            say(0) 0
            best(1, -1) -5
            best(1, 0) -5
            """);
        holds("ROW: the last THINGS, too; the first as a row of numbers", """
            thing(0, 0, 1, 0) 0
            thing(0, 0, 1, 0) 1
            thing(0, 0, 1, 0) 2
            thing(0, 0, 9, 0) 3
            thing(0, 0, 9, 0) 4
            thing(0, 0, 9, 0) 5
            best(3, -1) 54
            best(3, 0) 3
            best(3, 1) 4
            best(3, 2) 5
            weigh(5, 10) 9
            best(3, 0) 5
            best(3, 1) 3
            best(3, 2) 4
            best(1, 0) 5
            """);
        holds("ROW: COLOUR greatest may be 0, by the first row", """
            thing(0, 0, 3, 0) 0
            thing(0, 0, 5, 0) 1
            kitchen "clear 20 p<9" 0
            best(1, -1) 0
            best(1, 0) 0
            best(2, -1) 0
            best(2, 0) 0
            best(2, 1) 1
            """);
        holds("ROW: if it is SET, COLOUR stays by each, the first row", """
            thing(0, 0, 20, 0) 0
            thing(0, 0, 1, 0) 1
            thing(0, 0, 20, 0) 2
            put(0) 1
            pass(3) 3
            best(1, -1) 60
            best(1, 0) 1
            best(2, -1) 60
            best(2, 0) 1
            best(2, 1) 2
            """);
        holds("ROW: one PUT IN just ahead of each MINUTE, TIME 0 then", """
            thing(5, 0, 2, 0) 0
            thing(5, 0, 4, 0) 1
            fire(0) 1
            put(0) 1
            pass(9) 9
            tip() 1
            fire(1) 0
            of(0, 6) 10
            best(1, -1) 2
            best(1, 0) 1
            best(2, -1) 6
            best(2, 0) 1
            """);
    }

    private static void enough() {
        holds("ENOUGH for n MINUTES (1 .. 12)", """
            enough(0) BAD
            enough(13) BAD
            enough(-1) BAD
            enough(2147483647) BAD
            enough(-2147483648) BAD
            enough(1) -5
            enough(12) -5
            thing(0, 0, 5, 0) 0
            thing(0, 0, 5, 0) 1
            enough(12) 1
            enough(11) 3
            enough(6) 3
            enough(5) -5
            weigh(1, 20) 5
            enough(3) 2
            enough(2) -5
            put(0) 1
            enough(12) 0
            enough(11) 2
            say(1) 0
            enough(11) -5
            enough(12) 0
            """);
        holds("ENOUGH: the fewest, none, when it is SET; -5 with all that are UNSAID", """
            thing(0, 0, 20, 0) 0
            thing(0, 0, 20, 0) 1
            put(0) 1
            pass(3) 3
            enough(1) 0
            kitchen "need 99" 0
            enough(1) 0
            tip() 1
            enough(12) -5
            kitchen "need 48" 1
            enough(12) 3
            """);
        holds("ENOUGH: of several the least as bits; the fewest ahead of the least", """
            thing(0, 0, 10, 0) 0
            thing(0, 0, 10, 0) 1
            thing(0, 0, 10, 0) 2
            thing(0, 0, 20, 0) 3
            thing(0, 0, 10, 0) 4
            thing(0, 0, 20, 0) 5
            enough(1) 43
            enough(2) 9
            enough(3) 8
            enough(6) 1
            weigh(3, 0) 20
            enough(3) 32
            put(0) 1
            say(5) 0
            enough(2) 6
            enough(1) -5
            """);
        holds("ENOUGH: were all of it PUT IN now, a THING that lets it down is left out", """
            thing(0, 0, 20, 0) 0
            thing(0, 0, 20, 0) 1
            thing(0, 0, 20, 0) 2
            kitchen "clear 30 p=0;need 4" 0
            enough(1) 6
            enough(2) 2
            """);
    }

    private static void flame() {
        holds("FLAME for n MINUTES (1 .. 20) and a COLOUR q (0 .. 9999)", """
            flame(0, 0) BAD
            flame(21, 0) BAD
            flame(2147483647, 0) BAD
            flame(-2147483648, 0) BAD
            flame(1, -1) BAD
            flame(1, 10000) BAD
            flame(1, 2147483647) BAD
            flame(1, -2147483648) BAD
            flame(1, 0) 0
            flame(20, 9999) 0
            thing(0, 0, 2, 0) 0
            put(0) 1
            flame(1, 0) 0
            flame(1, 9999) 9
            flame(20, 0) 0
            flame(2, 36) 9
            flame(2, 34) 8
            flame(2, 33) 8
            flame(2, 35) 9
            told(2) 1
            """);
        holds("FLAME: the FIRE (0 .. 9), of several the first", """
            thing(4, 0, 5, 0) 0
            flame(3, 100) 0
            put(0) 1
            flame(1, 1) 0
            flame(1, 2) 0
            flame(1, 3) 1
            flame(1, 60) 6
            flame(1, 42) 5
            flame(1, 43) 6
            flame(20, 61) 1
            kitchen "clear 6 p=0" 0
            flame(1, 9999) 0
            """);
        holds("FLAME: if it is SET, all are alike: the first", """
            thing(0, 0, 20, 0) 0
            put(0) 1
            pass(3) 3
            flame(1, 60) 0
            flame(20, 9999) 0
            flame(20, 0) 0
            """);
    }

    private static void word() {
        holds("WORD: -5 is greater than all", """
            thing(0, 0, 1, 0) 0
            thing(0, 0, 2, 0) 1
            thing(0, 0, 2, 0) 2
            put(1) 1
            kitchen "need 7" 0
            pass(5) 5
            told(3) 10
            told(7) 30
            told(8) 1
            put(2) 2
            told(7) 15
            told(8) 1
            """);
        holds("WORD: if greater than as it is: as -5 is, none is", """
            thing(0, 0, 5, 0) 0
            told(7) -5
            told(8) -5
            put(0) 1
            told(8) 0
            fire(0) 1
            told(7) -5
            told(8) -5
            """);
        holds("WORD: if greater than as it is: what changes nothing is none", """
            thing(0, 0, 0, 0) 0
            thing(0, 0, 20, 1) 1
            thing(0, 0, 20, 0) 2
            say(2) 0
            put(1) 1
            told(7) 3
            told(8) 1
            say(1) 0
            told(8) -5
            """);
        holds("WORD: none, if it is SET", """
            thing(0, 0, 20, 0) 0
            put(0) 1
            pass(3) 3
            told(7) 0
            told(8) -5
            """);
        holds("WORD: of several the first; not SAID", """
            6 x thing(0, 0, 20, 0)
            put(5) 1
            pass(2) 2
            told(7) 1
            told(8) 5
            put(4) 2
            told(7) 1
            told(8) 4
            say(0) 0
            told(7) 2
            told(8) 4
            """);
        holds("WORD: of several that are UNSAID the first", """
            thing(0, 0, 0, 0) 0
            thing(0, 0, 5, 0) 1
            thing(0, 0, 5, 0) 2
            thing(0, 0, 0, 0) 3
            thing(0, 0, 0, 0) 4
            thing(0, 0, 0, 0) 5
            kitchen "dark 9 p>2" 0
            put(3) 1
            put(4) 2
            put(5) 3
            pass(2) 2
            told(3) 54
            told(7) 1
            told(8) 1
            weigh(2, 20) 5
            told(8) 1
            weigh(1, 1) 5
            told(8) 2
            """);
        holds("WORD: it may be UNSAID and let down what is of the same", """
            thing(0, 0, 0, 1) 0
            thing(3, 0, 20, 0) 1
            thing(0, 0, 0, 0) 2
            thing(0, 0, 1, 1) 3
            put(1) 1
            put(3) 2
            told(7) 3
            told(8) 1
            say(0) 0
            told(7) 3
            kitchen "need 6;dark 1 p=1" 0
            told(8) 1
            kitchen "need 90" 1
            told(7) 43
            told(8) 1
            weigh(1, 0) 20
            told(7) -5
            told(8) -5
            """);
        holds("WORD: none, without THINGS", """
            told(8) -5
            kitchen "need 0" 0
            told(7) 1
            told(8) -5
            """);
    }

    private static void odds() {
        holds("ODDS of n MINUTES (0 .. 20); part 0 above, 1 below the line", """
            odds(0, 0) NO
            odds(20, 1) NO
            thing(0, 0, 3, 0) 0
            odds(-1, 0) NO
            odds(21, 0) NO
            odds(2147483647, 0) NO
            odds(-2147483648, 0) NO
            odds(0, -1) NO
            odds(0, 2) NO
            odds(0, 2147483647) NO
            odds(0, -2147483648) NO
            odds(0, 0) 0
            odds(0, 1) 1
            odds(19, 0) 0
            odds(19, 1) 1
            odds(20, 0) 1
            odds(20, 1) 1
            put(0) 1
            odds(20, 0) NO
            odds(20, 1) NO
            tip() 1
            odds(20, 0) 1
            say(0) 0
            odds(20, 0) NO
            """);
        holds("ODDS: a fraction in lowest terms", """
            thing(0, 0, 20, 0) 0
            thing(0, 0, 10, 0) 1
            thing(0, 0, 5, 0) 2
            thing(0, 0, 4, 0) 3
            thing(0, 0, 3, 0) 4
            thing(0, 0, 0, 0) 5
            odds(2, 0) 0
            odds(2, 1) 1
            odds(3, 0) 1
            odds(3, 1) 6
            odds(6, 0) 1
            odds(6, 1) 3
            odds(12, 0) 1
            odds(12, 1) 2
            odds(15, 0) 2
            odds(15, 1) 3
            odds(20, 0) 5
            odds(20, 1) 6
            say(5) 0
            odds(20, 0) 1
            odds(20, 1) 1
            say(4) 0
            odds(6, 0) 1
            odds(6, 1) 2
            """);
        holds("ODDS of 0 MINUTES: if it is SET, sure", """
            thing(0, 0, 20, 0) 0
            thing(0, 0, 0, 0) 1
            thing(0, 0, 0, 0) 2
            put(0) 1
            pass(3) 3
            odds(0, 0) 1
            odds(0, 1) 1
            """);
    }

    private static void mean() {
        holds("MEAN: NO: there are none", """
            mean(0) NO
            mean(1) NO
            thing(0, 0, 3, 0) 0
            mean(0) NO
            put(0) 1
            mean(0) 3
            mean(1) 1
            mean(-1) NO
            mean(2) NO
            mean(2147483647) NO
            mean(-2147483648) NO
            say(0) 0
            mean(0) NO
            mean(1) NO
            """);
        holds("MEAN: in lowest terms, what is above the line maybe below 0", """
            thing(0, 0, 0, 0) 0
            thing(0, 0, 1, 0) 1
            thing(0, 0, 3, 0) 2
            thing(0, 0, 2, 0) 3
            thing(0, 0, 0, 0) 4
            thing(0, 0, 0, 0) 5
            put(0) 1
            mean(0) 0
            mean(1) 1
            put(1) 2
            mean(0) 1
            mean(1) 2
            put(2) 3
            mean(0) 4
            mean(1) 3
            put(3) 4
            mean(0) 3
            mean(1) 2
            put(4) 5
            put(5) 6
            mean(0) 1
            mean(1) 1
            kitchen "clear 7 p=0" 0
            mean(0) -1
            mean(1) 6
            kitchen "clear 10 p=0" 1
            mean(0) -2
            mean(1) 3
            kitchen "clear 12 p=0" 2
            mean(0) -1
            mean(1) 1
            kitchen "clear 6 p=0" 3
            mean(0) 0
            mean(1) 1
            """);
    }
}
