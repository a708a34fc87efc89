/** Terms, part 1, sentence by sentence where one names a bound: things and what is theirs, what they give, minutes. */
public final class TermsThingsTest {
    private static final Due due = new Due();

    public static void main(String[] args) {
        numbers();
        states();
        times();
        pan();
        gives();
        minutes();
        due.end();
    }

    private static void holds(String sentence, String rows) {
        Script.holds(due, sentence, rows);
    }

    private static void numbers() {
        holds("THINGS 0 .. 5, as they come", """
            of(0, 0) NONE
            thing(0, 0, 0, 0) 0
            of(0, 0) 0
            of(1, 0) NONE
            thing(1, 0, 0, 0) 1
            thing(2, 0, 0, 0) 2
            thing(3, 0, 0, 0) 3
            thing(4, 0, 0, 0) 4
            count(0) 5
            of(5, 0) NONE
            thing(5, 0, 0, 0) 5
            of(5, 0) 5
            thing(6, 0, 0, 0) FULL
            thing(0, 9, 20, 1) FULL
            count(0) 6
            of(5, 0) 5
            of(5, 1) 0
            of(6, 0) NONE
            of(-1, 0) NONE
            of(2147483647, 0) NONE
            of(-2147483648, 0) NONE
            """);
        holds("no such THING, in every call that takes one", """
            thing(6, 1, 1, 0) 0
            thing(6, 1, 1, 1) 1
            put(2) NONE
            put(-1) NONE
            put(2147483647) NONE
            put(-2147483648) NONE
            put(1) 1
            say(2) NONE
            say(-1) NONE
            say(2147483647) NONE
            say(-2147483648) NONE
            say(0) 0
            weigh(2, 0) NONE
            weigh(-1, 0) NONE
            weigh(1, 2) 1
            row(2, 0, 0) NONE
            row(-1, 0, 0) NONE
            row(1, 0, 3) 0
            can(2, 0) NONE
            can(-1, 0) NONE
            can(1, 0) 10
            plan(1, 2) NONE
            plan(1, -1) NONE
            plan(2, 2) NONE
            plan(2, -1) NONE
            plan(1, 1) 1
            plan(2, 1) 2
            book(2, 0) NONE
            book(-2, 0) NONE
            book(1, 0) 1
            taken(2, 0) NOTHING
            taken(-1, 0) NOTHING
            taken(1, 0) 6
            act(1, 0, 4) 4
            count(6) 2
            act(2, 0, 4) 0
            count(6) 0
            act(1, 0, 4) 4
            act(-1, 0, 4) 0
            count(6) 0
            """);
        holds("no such THING while there are none, nor a sixth of six", """
            put(0) NONE
            say(0) NONE
            weigh(0, 0) NONE
            row(0, 0, 0) NONE
            can(0, 0) NONE
            plan(1, 0) NONE
            plan(2, 0) NONE
            book(0, 0) NONE
            taken(0, 0) NOTHING
            act(0, 0, 0) 0
            6 x thing(6, 0, 0, 0)
            put(6) NONE
            say(6) NONE
            weigh(6, 0) NONE
            row(6, 0, 0) NONE
            can(6, 0) NONE
            plan(1, 6) NONE
            plan(2, 6) NONE
            book(6, 0) NONE
            taken(6, 0) NOTHING
            act(6, 0, 0) 0
            put(5) 1
            say(5) 0
            weigh(5, 1) 0
            row(5, 0, 1) 0
            can(5, 0) 10
            plan(1, 5) 1
            plan(2, 5) 2
            book(5, 0) 1
            taken(5, 6) 6
            act(5, 0, 0) 5
            """);
        holds("KINDS 0 .. 6", """
            thing(-1, 0, 0, 0) NONE
            thing(7, 0, 0, 0) NONE
            thing(2147483647, 0, 0, 0) NONE
            thing(-2147483648, 0, 0, 0) NONE
            count(0) 0
            thing(0, 0, 0, 0) 0
            thing(6, 0, 0, 0) 1
            of(0, 0) 0
            of(1, 0) 6
            taken(1, -1) BAD
            taken(1, 7) BAD
            taken(1, 0) 6
            taken(1, 6) 6
            """);
        holds("a number v (0 .. 9)", """
            thing(0, -1, 0, 0) BAD
            thing(0, 10, 0, 0) BAD
            thing(0, 2147483647, 0, 0) BAD
            thing(0, -2147483648, 0, 0) BAD
            count(0) 0
            thing(0, 0, 5, 1) 0
            thing(0, 9, 5, 1) 1
            of(0, 1) 0
            of(1, 1) 9
            """);
        holds("a WEIGHT (0 .. 20)", """
            thing(0, 0, -1, 0) BAD
            thing(0, 0, 21, 0) BAD
            thing(0, 0, 2147483647, 0) BAD
            thing(0, 0, -2147483648, 0) BAD
            count(0) 0
            thing(0, 5, 0, 1) 0
            thing(0, 5, 20, 1) 1
            of(0, 2) 0
            of(1, 2) 20
            weigh(0, 20) 0
            weigh(0, 21) BAD
            weigh(0, 2147483647) BAD
            of(0, 2) 20
            weigh(1, 0) 20
            weigh(1, -1) BAD
            weigh(1, -2147483648) BAD
            of(1, 2) 0
            book(1, 0) 1
            book(0, 20) 2
            book(0, 21) BAD
            book(0, -1) BAD
            count(4) 2
            looked() -5
            """);
        holds("WHOSE it is (0, 1)", """
            thing(0, 0, 0, -1) BAD
            thing(0, 0, 0, 2) BAD
            thing(0, 0, 0, 2147483647) BAD
            thing(0, 0, 0, -2147483648) BAD
            count(0) 0
            thing(0, 5, 5, 0) 0
            thing(0, 5, 5, 1) 1
            of(0, 3) 0
            of(1, 3) 1
            """);
        holds("Of a THING what 0 .. 7; -10001: NONE", """
            thing(5, 9, 20, 1) 0
            of(0, 0) 5
            of(0, 7) 2097151
            of(0, -1) NONE
            of(0, 8) NONE
            of(0, 2147483647) NONE
            of(0, -2147483648) NONE
            of(1, 8) NONE
            """);
        holds("A new object: no THINGS, no KITCHEN", """
            count(0) 0
            count(1) 0
            count(2) 0
            count(3) 0
            count(4) 0
            count(5) 0
            count(6) 0
            told(0) 0
            told(1) 60
            told(2) 1
            told(3) 0
            told(4) 0
            told(5) 0
            told(6) 0
            told(7) -5
            told(8) -5
            told(9) 0
            looked() -5
            ends(0) 0
            ends(1) 0
            undo() STATE
            tip() 0
            trace(0) NONE
            """);
    }

    private static void states() {
        holds("a STATE (0 UNSAID, at first; 1 IN the pan; 2 SAID)", """
            thing(0, 0, 0, 0) 0
            of(0, 4) 0
            told(5) 0
            told(6) 0
            put(0) 1
            of(0, 4) 1
            told(5) 1
            put(0) STATE
            of(0, 4) 1
            say(0) 0
            of(0, 4) 2
            told(5) 0
            told(6) 1
            """);
        holds("put: STATE: it is not UNSAID", """
            thing(0, 0, 0, 0) 0
            thing(0, 0, 0, 0) 1
            put(0) 1
            pass(3) 3
            put(0) STATE
            of(0, 5) 3
            say(0) 0
            put(0) STATE
            of(0, 4) 2
            put(1) 1
            told(5) 2
            """);
        holds("say: STATE: it is SAID", """
            thing(0, 0, 2, 0) 0
            thing(0, 0, 9, 0) 1
            put(1) 1
            pass(5) 5
            say(0) 25
            say(0) STATE
            told(3) 25
            say(1) 0
            say(1) STATE
            told(6) 3
            """);
        holds("how many are IN then", """
            6 x thing(0, 0, 0, 0)
            put(5) 1
            put(0) 2
            say(5) 0
            put(1) 2
            put(2) 3
            put(3) 4
            put(4) 5
            told(5) 31
            told(6) 32
            tip() 5
            told(5) 0
            told(6) 32
            put(0) 1
            """);
        holds("all six IN, all six SAID", """
            6 x thing(0, 0, 20, 0)
            put(0) 1
            put(1) 2
            put(2) 3
            put(3) 4
            put(4) 5
            put(5) 6
            told(5) 63
            tip() 6
            told(5) 0
            say(0) 0
            say(1) 0
            say(2) 0
            say(3) 0
            say(4) 0
            say(5) 0
            told(6) 63
            tip() 0
            told(6) 63
            put(5) STATE
            """);
        holds("All is out of the pan: what was IN is UNSAID, COLOUR 0, it is not SET", """
            thing(0, 0, 20, 0) 0
            thing(0, 0, 20, 0) 1
            thing(0, 0, 1, 1) 2
            put(0) 1
            say(1) 0
            pass(3) 3
            told(4) 1
            told(3) 60
            tip() 1
            of(0, 4) 0
            of(1, 4) 2
            of(2, 4) 0
            told(3) 0
            told(4) 0
            told(0) 3
            told(2) 1
            tip() 0
            put(0) 1
            pass(1) 4
            told(3) 20
            """);
    }

    private static void times() {
        holds("a TIME in the pan (0 at first)", """
            thing(5, 0, 0, 0) 0
            of(0, 5) 0
            pass(7) 7
            of(0, 5) 0
            put(0) 1
            of(0, 5) 0
            pass(1) 8
            of(0, 5) 1
            say(0) 0
            pass(2) 10
            of(0, 5) 1
            """);
        holds("To PUT IN: it is IN, TIME 0", """
            thing(5, 0, 0, 0) 0
            put(0) 1
            pass(4) 4
            of(0, 5) 4
            tip() 1
            pass(1) 5
            of(0, 5) 4
            put(0) 1
            of(0, 5) 0
            of(0, 6) 0
            pass(1) 6
            of(0, 5) 1
            """);
        holds("a TIME in the pan (0 .. 9999); MINUTE: 9999 at most by pass", """
            thing(5, 0, 0, 0) 0
            told(0) 0
            put(0) 1
            fire(0) 1
            166 x pass(60)
            told(0) 9960
            pass(40) STATE
            pass(60) STATE
            told(0) 9960
            of(0, 5) 9960
            pass(38) 9998
            of(0, 5) 9998
            pass(2) STATE
            pass(1) 9999
            of(0, 5) 9999
            of(0, 6) 9
            pass(1) STATE
            pass(0) 9999
            told(0) 9999
            of(0, 5) 9999
            """);
        holds("TIME beyond 9999, where it is asked: a SECRET gives 9 more still", """
            thing(5, 0, 0, 0) 0
            put(0) 1
            fire(0) 1
            166 x pass(60)
            pass(39) 9999
            fire(1) 0
            on(6, 0) 54
            on(7, 0) 63
            on(60, 0) 63
            told(7) 7
            told(0) 9999
            of(0, 5) 9999
            """);
    }

    private static void pan() {
        holds("FIRE: 0 .. 9 (1 at first)", """
            told(2) 1
            fire(0) 1
            fire(-1) BAD
            fire(10) BAD
            fire(2147483647) BAD
            fire(-2147483648) BAD
            told(2) 0
            fire(9) 0
            told(2) 9
            fire(10) BAD
            told(2) 9
            """);
        holds("FIRE 0: COLOUR stays; FIRE 9: nine times", """
            thing(0, 0, 5, 0) 0
            put(0) 1
            fire(0) 1
            pass(60) 60
            told(3) 0
            fire(9) 0
            pass(1) 61
            told(3) 45
            """);
        holds("COLOUR: 0 at least, by a MINUTE", """
            thing(0, 0, 7, 0) 0
            put(0) 1
            pass(1) 1
            told(3) 7
            kitchen "clear 14 p=0" 0
            pass(1) 2
            told(3) 0
            pass(1) 3
            told(3) 0
            kitchen "dark 2 p=0" 1
            pass(1) 4
            told(3) 9
            kitchen "clear 17 p=0" 2
            on(1, 0) 0
            kitchen "clear 15 p=0" 3
            on(1, 0) 1
            """);
        holds("COLOUR: ten times its WEIGHT less, 0 at least", """
            thing(0, 0, 10, 0) 0
            thing(0, 0, 0, 0) 1
            thing(0, 0, 1, 0) 2
            thing(0, 0, 3, 0) 3
            thing(0, 0, 2, 0) 4
            put(0) 1
            pass(3) 3
            say(1) 30
            say(2) 20
            say(4) 0
            pass(3) 6
            told(3) 30
            say(3) 0
            say(0) 0
            """);
        holds("COLOUR: ten times its WEIGHT less, just not 0 and just below", """
            thing(0, 0, 7, 0) 0
            thing(0, 0, 2, 0) 1
            thing(0, 0, 5, 0) 2
            put(0) 1
            pass(3) 3
            told(3) 21
            say(1) 1
            pass(7) 10
            told(3) 50
            weigh(0, 9) 7
            pass(1) 11
            told(3) 59
            say(2) 9
            say(0) 0
            """);
        holds("To SAY: COLOUR is less, if it is not SET", """
            thing(0, 0, 20, 0) 0
            thing(0, 0, 1, 0) 1
            put(0) 1
            pass(3) 3
            told(4) 1
            say(1) 60
            say(0) 60
            told(3) 60
            told(4) 1
            """);
        holds("the greatest COLOUR that 100 bytes of THE TEXT can bring is below 99999", """
            6 x thing(4, 9, 20, 0)
            put(0) 1
            put(1) 2
            put(2) 3
            put(3) 4
            put(4) 5
            put(5) 6
            kitchen "need 99" 0
            pass(5) 5
            told(3) 870
            weigh(0, 5) 20
            weigh(1, 0) 20
            weigh(2, 0) 20
            pass(1) 6
            told(3) 989
            told(4) 0
            weigh(0, 20) 5
            weigh(1, 20) 0
            weigh(2, 20) 0
            fire(9) 1
            kitchen "dark 99 p<9;dark 99 p<9;dark 99 p<9;dark 99 p<9;dark 99 p<9;dark 99 p<9;dark 99 p<9;dark 99 p<9" 1
            told(4) 0
            told(9) 9852
            on(1, 0) 89657
            pass(1) 7
            told(3) 89657
            told(4) 1
            pass(60) 67
            told(3) 89657
            """);
        holds("SET, or not (not at first): if COLOUR is NEED or more", """
            thing(0, 0, 1, 0) 0
            told(4) 0
            put(0) 1
            pass(59) 59
            told(3) 59
            told(4) 0
            pass(1) 60
            told(3) 60
            told(4) 1
            pass(1) 61
            told(3) 60
            kitchen "need 99" 0
            told(4) 1
            pass(1) 62
            told(3) 60
            told(4) 1
            """);
        holds("SET by NEED 0: only by a MINUTE, with nothing in the pan", """
            kitchen "need 0" 0
            told(4) 0
            told(7) 1
            pass(0) 0
            told(4) 0
            pass(1) 1
            told(4) 1
            told(7) 0
            """);
    }

    private static void gives() {
        holds("SUM may be below 0: dark and clear together, as THING gives it", """
            thing(0, 0, 0, 0) 0
            thing(0, 0, 3, 0) 1
            kitchen "clear 9 p<2;dark 8 p<2" 0
            of(0, 6) -1
            of(1, 6) 2
            kitchen "dark 8 p<2;clear 11 p<2" 1
            of(0, 6) -3
            of(1, 6) 0
            kitchen "clear 99 p=0;clear 99 p=0;clear 99 p=0;clear 99 p=0;clear 99 p=0;clear 99 p=0;clear 99 p=0" 2
            of(0, 6) -693
            of(1, 6) 3
            """);
        holds("GRUDGE: SUM and v, below 0 too", """
            thing(1, 9, 0, 0) 0
            of(0, 6) 9
            kitchen "clear 9 p=0" 0
            of(0, 6) 0
            kitchen "clear 10 p=0" 1
            of(0, 6) -1
            """);
        holds("WORRY: the half (cut toward 0) of SUM", """
            thing(2, 9, 0, 0) 0
            of(0, 6) 0
            weigh(0, 1) 0
            of(0, 6) 0
            weigh(0, 2) 1
            of(0, 6) 1
            weigh(0, 3) 2
            of(0, 6) 1
            kitchen "clear 4 p=0" 0
            of(0, 6) 0
            weigh(0, 2) 3
            of(0, 6) -1
            weigh(0, 1) 2
            of(0, 6) -1
            weigh(0, 0) 1
            of(0, 6) -2
            """);
        holds("NAME: 0, if another THING WHOSE is the same is SAID", """
            thing(3, 9, 5, 1) 0
            thing(0, 0, 0, 0) 1
            thing(0, 0, 0, 1) 2
            of(0, 6) 5
            say(1) 0
            of(0, 6) 5
            put(2) 1
            of(0, 6) 5
            say(2) 0
            of(0, 6) 0
            kitchen "dark 9 p=0" 0
            of(0, 6) 0
            kitchen "clear 99 p=0" 1
            of(0, 6) 0
            """);
        holds("NAME: another THING: that it is SAID itself is none", """
            thing(3, 9, 5, 1) 0
            thing(6, 9, 6, 1) 1
            say(0) 0
            of(0, 6) 5
            of(1, 6) 0
            say(1) 0
            of(0, 6) 0
            of(1, 6) 0
            """);
        holds("CLOVE: twice that, if FIRE is 6 or more", """
            thing(4, 9, 5, 1) 0
            of(0, 6) 14
            fire(5) 1
            of(0, 6) 14
            fire(6) 5
            of(0, 6) 28
            fire(9) 6
            of(0, 6) 28
            kitchen "clear 15 p=0" 0
            of(0, 6) -2
            fire(0) 9
            of(0, 6) -1
            """);
        holds("SECRET: as WORRY, and TIME (9 at most)", """
            thing(5, 9, 3, 1) 0
            fire(0) 1
            of(0, 6) 1
            put(0) 1
            pass(8) 8
            of(0, 6) 9
            pass(1) 9
            of(0, 6) 10
            pass(1) 10
            of(0, 6) 10
            pass(60) 70
            of(0, 6) 10
            kitchen "clear 26 p=0" 0
            of(0, 6) -2
            kitchen "clear 22 p=0" 1
            of(0, 6) 0
            """);
        holds("TOLD: as NAME, and its ROW at MINUTE modulo 4 more", """
            thing(6, 9, 3, 1) 0
            thing(0, 0, 0, 1) 1
            of(0, 6) 3
            row(0, 0, 9) 0
            row(0, 1, 1) 0
            row(0, 2, 2) 0
            row(0, 3, 4) 0
            of(0, 6) 12
            pass(1) 1
            of(0, 6) 4
            pass(1) 2
            of(0, 6) 5
            pass(1) 3
            of(0, 6) 7
            pass(1) 4
            of(0, 6) 12
            say(1) 0
            of(0, 6) 9
            pass(3) 7
            of(0, 6) 4
            pass(1) 8
            kitchen "clear 99 p=0" 0
            of(0, 6) 9
            """);
        holds("TOLD: its ROW (four numbers 0 .. 9; 0 at first)", """
            thing(6, 0, 0, 0) 0
            thing(3, 0, 0, 0) 1
            row(0, 0, 0) 0
            row(0, 1, 9) 0
            row(0, 2, 0) 0
            row(0, 3, 9) 0
            row(0, 3, 10) BAD
            row(0, 3, -1) BAD
            row(0, 3, 2147483647) BAD
            row(0, 3, -2147483648) BAD
            row(0, 4, 5) NONE
            row(0, -1, 5) NONE
            row(0, 2147483647, 5) NONE
            row(0, -2147483648, 5) NONE
            row(1, 0, 5) STATE
            row(1, 3, 0) STATE
            row(0, 3, 0) 9
            row(0, 1, 0) 9
            row(0, 0, 1) 0
            """);
        holds("ROW: STATE: another KIND, each", """
            thing(0, 0, 0, 0) 0
            thing(1, 0, 0, 0) 1
            thing(2, 0, 0, 0) 2
            thing(3, 0, 0, 0) 3
            thing(4, 0, 0, 0) 4
            thing(5, 0, 0, 0) 5
            row(0, 0, 1) STATE
            row(1, 0, 1) STATE
            row(2, 0, 1) STATE
            row(3, 0, 1) STATE
            row(4, 0, 1) STATE
            row(5, 0, 1) STATE
            """);
        holds("GIVES (whatever its STATE is)", """
            thing(1, 2, 3, 0) 0
            of(0, 6) 5
            told(9) 0
            put(0) 1
            of(0, 6) 5
            told(9) 5
            say(0) 0
            of(0, 6) 5
            told(9) 0
            """);
        holds("what all IN GIVE, together: may be below 0, where -1 and -10001 are apart", """
            thing(0, 0, 0, 0) 0
            thing(0, 0, 2, 0) 1
            put(0) 1
            put(1) 2
            kitchen "clear 3 p=0" 0
            told(9) -1
            of(0, 6) -3
            told(10) NONE
            told(-1) NONE
            told(2147483647) NONE
            told(-2147483648) NONE
            """);
    }

    private static void minutes() {
        holds("n MINUTES (0 .. 60) go", """
            pass(-1) BAD
            pass(61) BAD
            pass(2147483647) BAD
            pass(-2147483648) BAD
            told(0) 0
            pass(0) 0
            pass(60) 60
            pass(1) 61
            pass(61) BAD
            told(0) 61
            """);
        holds("COLOUR is FIRE times what all IN GIVE more, or less, if that is below 0", """
            thing(0, 0, 4, 0) 0
            thing(0, 0, 3, 0) 1
            thing(0, 0, 9, 0) 2
            put(0) 1
            put(1) 2
            fire(2) 1
            pass(2) 2
            told(3) 28
            kitchen "clear 9 p=0" 0
            told(9) -2
            pass(1) 3
            told(3) 24
            fire(9) 2
            pass(1) 4
            told(3) 6
            pass(1) 5
            told(3) 0
            """);
        holds("TIME of each one IN is 1 more, SET or not", """
            thing(0, 0, 20, 0) 0
            thing(0, 0, 20, 0) 1
            thing(0, 0, 20, 0) 2
            put(0) 1
            say(2) 0
            pass(5) 5
            told(4) 1
            put(1) 2
            pass(2) 7
            of(0, 5) 7
            of(1, 5) 2
            of(2, 5) 0
            told(3) 60
            """);
        holds("m MINUTE modulo 10", """
            thing(0, 0, 0, 0) 0
            kitchen "dark 1 m=0;dark 2 m=9;dark 4 m>9;dark 8 m=10;dark 16 m<1" 0
            of(0, 6) 17
            pass(1) 1
            of(0, 6) 0
            pass(8) 9
            of(0, 6) 2
            pass(1) 10
            of(0, 6) 17
            pass(59) 69
            of(0, 6) 2
            """);
    }
}
