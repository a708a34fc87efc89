/** Terms, part 3, sentence by sentence where one names a bound: tapes, what is judged, the host's refusals. */
public final class TermsTapesTest {
    private static final Due due = new Due();

    public static void main(String[] args) {
        tapes();
        items();
        places();
        shifts();
        judged();
        due.end();
    }

    private static void holds(String sentence, String rows) {
        Script.holds(due, sentence, rows);
    }

    private static void tapes() {
        holds("TAPES 0 .. 5 hold nothing (at first)", """
            read(0, 0) NO
            read(5, 0) NO
            item(0, 0, 1) NOTHING
            item(1, 0, 1) NOTHING
            item(2, 0, 1) NOTHING
            item(3, 0, 1) NOTHING
            item(4, 0, 1) NOTHING
            item(5, 0, 1) NOTHING
            shift(0, 0, 0, 0, 0) NOTHING
            shift(0, 0, 5, 0, 1) NOTHING
            """);
        holds("no such TAPE, in every call that takes one", """
            tape(5, 3, 2) 1
            tape(0, 3, 2) 1
            tape(6, 3, 2) NONE
            tape(-1, 3, 2) NONE
            tape(2147483647, 3, 2) NONE
            tape(-2147483648, 3, 2) NONE
            tape(6, -1, 0) NONE
            item(6, 0, 1) NONE
            item(-1, 0, 1) NONE
            item(2147483647, 0, 1) NONE
            item(-2147483648, 0, 1) NONE
            item(5, 0, 7) 1
            read(6, 0) NO
            read(-1, 0) NO
            read(2147483647, 0) NO
            read(-2147483648, 0) NO
            read(5, 0) 7
            shift(6, 0, 0, 0, 1) NONE
            shift(-1, 0, 0, 0, 1) NONE
            shift(0, 0, 6, 0, 1) NONE
            shift(0, 0, -1, 0, 1) NONE
            shift(2147483647, 0, -2147483648, 0, 1) NONE
            shift(5, 0, 0, 1, 1) 1
            read(0, 1) 7
            judge(6, 0) NONE
            judge(-1, 0) NONE
            judge(2147483647, 0) NONE
            judge(-2147483648, 0) NONE
            judge(5, 0) -5
            """);
        holds("a row of n (0 .. 60); BAD: n above 60; SIZE: below 0", """
            tape(0, 0, 60) 1
            item(0, 59, 5) 1
            item(0, 60, 5) PLACE
            tape(0, 0, 61) BAD
            tape(0, 0, 2147483647) BAD
            tape(0, 0, -1) SIZE
            tape(0, 0, -2147483648) SIZE
            read(0, 59) 5
            read(0, 60) NO
            tape(0, 0, 0) 1
            read(0, 0) NO
            item(0, 0, 5) PLACE
            tape(0, 0, 1) 1
            read(0, 0) 0
            read(0, 1) NO
            item(0, 1, 5) PLACE
            """);
        holds("of a sort: 0 .. 4, -1; BAD: sort", """
            tape(0, 0, 1) 1
            item(0, 0, 3) 1
            tape(0, 5, 1) BAD
            tape(0, -2, 1) BAD
            tape(0, 2147483647, 1) BAD
            tape(0, -2147483648, 1) BAD
            tape(0, 5, -1) BAD
            tape(0, -2, 61) BAD
            read(0, 0) 3
            tape(1, 1, 1) 1
            tape(2, 2, 1) 1
            tape(3, 3, 1) 1
            tape(4, 4, 1) 1
            tape(5, -1, 1) 1
            item(5, 0, 1) NOTHING
            item(4, 0, 1) 1
            """);
        holds("or holds nothing (sort -1: n does not matter)", """
            tape(0, 3, 60) 1
            tape(0, -1, 0) 1
            read(0, 0) NO
            item(0, 0, 1) NOTHING
            tape(0, -1, 61) 1
            tape(0, -1, -1) 1
            tape(0, -1, 2147483647) 1
            tape(0, -1, -2147483648) 1
            item(0, 0, 1) NOTHING
            shift(0, 0, 0, 0, 0) NOTHING
            tape(0, 3, 1) 1
            read(0, 0) 0
            """);
        holds("A TAPE becomes a row of n, all 0: of what it held nothing is left", """
            tape(0, 3, 60) 1
            item(0, 0, 9) 1
            item(0, 59, 8) 1
            tape(0, 3, 60) 1
            read(0, 0) 0
            read(0, 59) 0
            item(0, 59, 8) 1
            tape(0, 3, 1) 1
            read(0, 59) NO
            tape(0, 1, 60) 1
            read(0, 59) 0
            item(0, 59, 8) 1
            tape(0, -1, 0) 1
            tape(0, 1, 60) 1
            read(0, 59) 0
            """);
    }

    private static void items() {
        holds("bytes: its lowest bits, as many as an item has", """
            tape(0, 0, 2) 1
            item(0, 1, 127) 1
            read(0, 1) 127
            item(0, 1, 128) 1
            read(0, 1) -128
            item(0, 1, -128) 1
            read(0, 1) -128
            item(0, 1, -129) 1
            read(0, 1) 127
            item(0, 1, 255) 1
            read(0, 1) -1
            item(0, 1, 256) 1
            read(0, 1) 0
            item(0, 1, 9223372036854775807) 1
            read(0, 1) -1
            item(0, 1, -9223372036854775808) 1
            read(0, 1) 0
            read(0, 0) 0
            """);
        holds("shorts", """
            tape(0, 1, 2) 1
            item(0, 1, 32767) 1
            read(0, 1) 32767
            item(0, 1, 32768) 1
            read(0, 1) -32768
            item(0, 1, -32768) 1
            read(0, 1) -32768
            item(0, 1, -32769) 1
            read(0, 1) 32767
            item(0, 1, 65535) 1
            read(0, 1) -1
            item(0, 1, 65536) 1
            read(0, 1) 0
            read(0, 0) 0
            """);
        holds("ints", """
            tape(0, 2, 2) 1
            item(0, 1, 2147483647) 1
            read(0, 1) 2147483647
            item(0, 1, 2147483648) 1
            read(0, 1) -2147483648
            item(0, 1, -2147483649) 1
            read(0, 1) 2147483647
            item(0, 1, 4294967295) 1
            read(0, 1) -1
            item(0, 1, 4294967296) 1
            read(0, 1) 0
            read(0, 0) 0
            """);
        holds("longs; the least is told, though NO is as it is", """
            tape(0, 3, 2) 1
            item(0, 1, 9223372036854775807) 1
            read(0, 1) 9223372036854775807
            item(0, 1, -9223372036854775808) 1
            read(0, 1) -9223372036854775808
            item(0, 1, -1) 1
            read(0, 1) -1
            item(0, 1, 4294967296) 1
            read(0, 1) 4294967296
            read(0, 0) 0
            """);
        holds("booleans: items 0, 1: whether v is not 0", """
            tape(0, 4, 2) 1
            item(0, 1, 1) 1
            read(0, 1) 1
            item(0, 1, 0) 1
            read(0, 1) 0
            item(0, 1, 2) 1
            read(0, 1) 1
            item(0, 1, 0) 1
            item(0, 1, -1) 1
            read(0, 1) 1
            item(0, 1, 0) 1
            item(0, 1, 4294967296) 1
            read(0, 1) 1
            item(0, 1, 0) 1
            item(0, 1, -9223372036854775808) 1
            read(0, 1) 1
            item(0, 1, 256) 1
            read(0, 1) 1
            read(0, 0) 0
            """);
    }

    private static void places() {
        holds("item: PLACE: the last, and beyond it on either side", """
            tape(2, 3, 3) 1
            item(2, 0, 1) 1
            item(2, 2, 3) 1
            item(2, 3, 4) PLACE
            item(2, -1, 4) PLACE
            item(2, 2147483647, 4) PLACE
            item(2, -2147483648, 4) PLACE
            item(3, 0, 4) NOTHING
            item(3, -1, 4) NOTHING
            read(2, 0) 1
            read(2, 1) 0
            read(2, 2) 3
            read(2, 3) NO
            read(2, -1) NO
            read(2, 2147483647) NO
            read(2, -2147483648) NO
            read(3, 0) NO
            """);
        holds("TAPES are apart", """
            tape(0, 3, 2) 1
            tape(1, 3, 2) 1
            tape(4, 3, 2) 1
            tape(5, 3, 2) 1
            item(0, 0, 10) 1
            item(1, 0, 11) 1
            item(4, 0, 14) 1
            item(5, 0, 15) 1
            read(0, 0) 10
            read(1, 0) 11
            read(4, 0) 14
            read(5, 0) 15
            tape(1, -1, 0) 1
            read(0, 0) 10
            read(5, 0) 15
            """);
    }

    private static void shifts() {
        holds("shift: PLACE: n, i or j is below 0", """
            tape(0, 3, 3) 1
            tape(1, 3, 3) 1
            item(0, 0, 1) 1
            item(0, 1, 2) 1
            item(0, 2, 3) 1
            shift(0, 0, 1, 0, -1) PLACE
            shift(0, -1, 1, 0, 1) PLACE
            shift(0, 0, 1, -1, 1) PLACE
            shift(0, -1, 1, 0, 0) PLACE
            shift(0, 0, 1, -1, 0) PLACE
            shift(0, 0, 1, 0, -2147483648) PLACE
            shift(0, -2147483648, 1, 0, 1) PLACE
            shift(0, 0, 1, -2147483648, 1) PLACE
            shift(0, 3, 1, 3, -1) PLACE
            read(1, 0) 0
            read(1, 2) 0
            """);
        holds("shift: PLACE: beyond either's end", """
            tape(0, 3, 3) 1
            tape(1, 3, 2) 1
            item(0, 0, 1) 1
            item(0, 1, 2) 1
            item(0, 2, 3) 1
            shift(0, 0, 1, 0, 3) PLACE
            shift(0, 2, 1, 0, 2) PLACE
            shift(0, 0, 1, 1, 2) PLACE
            shift(1, 1, 0, 0, 2) PLACE
            shift(0, 4, 1, 0, 0) PLACE
            shift(0, 0, 1, 3, 0) PLACE
            shift(0, 2147483647, 1, 0, 1) PLACE
            shift(0, 0, 1, 2147483647, 1) PLACE
            shift(0, 1, 1, 0, 2147483647) PLACE
            shift(0, 2147483647, 1, 2147483647, 2147483647) PLACE
            read(1, 0) 0
            read(1, 1) 0
            shift(0, 3, 1, 2, 0) 0
            shift(0, 0, 1, 0, 0) 0
            read(1, 0) 0
            shift(0, 1, 1, 0, 2) 2
            read(1, 0) 2
            read(1, 1) 3
            shift(0, 0, 1, 1, 1) 1
            read(1, 1) 1
            """);
        holds("shift of rows of none", """
            tape(0, 0, 0) 1
            tape(1, 0, 0) 1
            shift(0, 0, 1, 0, 0) 0
            shift(0, 0, 0, 0, 0) 0
            shift(0, 0, 1, 0, 1) PLACE
            shift(0, 1, 1, 0, 0) PLACE
            shift(0, 0, 1, 1, 0) PLACE
            """);
        holds("shift of a whole row of 60, and the longest within one", """
            tape(0, 1, 60) 1
            tape(1, 1, 60) 1
            item(0, 0, 7) 1
            item(0, 59, 9) 1
            shift(0, 0, 1, 0, 61) PLACE
            shift(0, 1, 1, 0, 60) PLACE
            shift(0, 0, 1, 1, 60) PLACE
            shift(0, 0, 1, 0, 60) 60
            read(1, 0) 7
            read(1, 59) 9
            shift(1, 0, 1, 1, 59) 59
            read(1, 0) 7
            read(1, 1) 7
            read(1, 59) 0
            shift(0, 59, 1, 59, 1) 1
            read(1, 59) 9
            """);
        holds("shift to the same one, as they all were before: on and back over one another", """
            tape(3, 0, 5) 1
            item(3, 0, 1) 1
            item(3, 1, 2) 1
            item(3, 2, 3) 1
            item(3, 3, 4) 1
            item(3, 4, 5) 1
            shift(3, 0, 3, 2, 3) 3
            read(3, 0) 1
            read(3, 1) 2
            read(3, 2) 1
            read(3, 3) 2
            read(3, 4) 3
            shift(3, 1, 3, 0, 4) 4
            read(3, 0) 2
            read(3, 1) 1
            read(3, 2) 2
            read(3, 3) 3
            read(3, 4) 3
            shift(3, 0, 3, 0, 5) 5
            read(3, 0) 2
            """);
        holds("shift: CAST: of unlike sorts, even of no items; NOTHING and NONE ahead of it", """
            tape(0, 0, 2) 1
            tape(1, 1, 2) 1
            tape(2, 4, 2) 1
            shift(0, 0, 1, 0, 1) CAST
            shift(1, 0, 0, 0, 1) CAST
            shift(0, 0, 2, 0, 1) CAST
            shift(0, 0, 1, 0, 0) CAST
            shift(0, -1, 1, 0, 1) CAST
            shift(0, 0, 1, 0, -1) CAST
            shift(0, 3, 1, 3, 1) CAST
            shift(0, 0, 3, 0, 1) NOTHING
            shift(3, 0, 0, 0, 1) NOTHING
            shift(3, 0, 4, 0, 1) NOTHING
            shift(3, -1, 0, 0, 1) NOTHING
            shift(3, 0, 3, 0, -1) NOTHING
            shift(3, 0, 6, 0, 1) NONE
            shift(-1, 0, 3, 0, 1) NONE
            shift(0, 0, 6, 0, -1) NONE
            read(1, 0) 0
            """);
        holds("shift: each sort to its own", """
            tape(0, 0, 2) 1
            tape(1, 0, 2) 1
            item(0, 1, 200) 1
            shift(0, 1, 1, 0, 1) 1
            read(1, 0) -56
            tape(0, 4, 2) 1
            tape(1, 4, 2) 1
            item(0, 1, 200) 1
            shift(0, 1, 1, 0, 1) 1
            read(1, 0) 1
            tape(0, 3, 2) 1
            tape(1, 3, 2) 1
            item(0, 1, -9223372036854775808) 1
            shift(0, 1, 1, 0, 1) 1
            read(1, 0) -9223372036854775808
            tape(0, 2, 2) 1
            tape(1, 2, 2) 1
            item(0, 1, 2147483648) 1
            shift(0, 1, 1, 0, 1) 1
            read(1, 0) -2147483648
            """);
    }

    private static void judged() {
        holds("JUDGED: -5: there are no THINGS, wherever the place is", """
            tape(0, 3, 2) 1
            judge(0, 0) -5
            judge(0, 2) -5
            judge(0, 3) -5
            judge(0, -1) -5
            judge(1, 0) -5
            judge(1, -1) -5
            judge(0, 2147483647) -5
            judge(0, -2147483648) -5
            """);
        holds("JUDGED: -5: none is otherwise; the first that is: the first THING, the last", """
            6 x thing(0, 0, 0, 0)
            put(0) 1
            put(5) 2
            pass(7) 7
            tape(0, 3, 60) 1
            item(0, 54, 7) 1
            item(0, 59, 7) 1
            judge(0, 54) -5
            item(0, 59, 6) 1
            judge(0, 54) 5
            item(0, 55, 1) 1
            judge(0, 54) 1
            item(0, 54, 8) 1
            judge(0, 54) 0
            judge(0, 1) 0
            """);
        holds("JUDGED: 100 and how many were looked at, if the row ends ahead of that", """
            6 x thing(0, 0, 0, 0)
            tape(0, 3, 6) 1
            judge(0, 0) -5
            judge(0, 1) 105
            judge(0, 2) 104
            judge(0, 5) 101
            judge(0, 6) 100
            judge(0, 7) 100
            judge(0, 2147483647) 100
            item(0, 5, 1) 1
            judge(0, 0) 5
            judge(0, 1) 4
            judge(0, 5) 0
            judge(0, 6) 100
            """);
        holds("JUDGED: or the place is below 0, or the TAPE holds nothing, or a row of none", """
            thing(0, 0, 0, 0) 0
            tape(0, 3, 1) 1
            judge(0, 0) -5
            judge(0, -1) 100
            judge(0, -2147483648) 100
            judge(1, 0) 100
            judge(1, -1) 100
            tape(0, 3, 0) 1
            judge(0, 0) 100
            tape(0, -1, 0) 1
            judge(0, 0) 100
            """);
        holds("judge: CAST: it is no row of longs", """
            tape(0, 0, 1) 1
            tape(1, 1, 1) 1
            tape(2, 2, 1) 1
            tape(3, 3, 1) 1
            tape(4, 4, 1) 1
            thing(0, 0, 0, 0) 0
            judge(0, 0) CAST
            judge(1, 0) CAST
            judge(2, 0) CAST
            judge(3, 0) -5
            judge(4, 0) CAST
            judge(4, -1) CAST
            judge(4, 9) CAST
            judge(5, 0) 100
            """);
        holds("JUDGED: as longs", """
            thing(0, 0, 0, 0) 0
            tape(0, 3, 1) 1
            item(0, 0, 4294967296) 1
            judge(0, 0) 0
            item(0, 0, -9223372036854775808) 1
            judge(0, 0) 0
            item(0, 0, 0) 1
            judge(0, 0) -5
            """);
        holds("taken: NOTHING: no such THING; CAST: not of the KIND or one under it; BAD ahead", """
            taken(0, 0) NOTHING
            taken(0, 7) BAD
            taken(0, -1) BAD
            thing(4, 0, 0, 0) 0
            taken(0, 0) 4
            taken(0, 1) 4
            taken(0, 2) CAST
            taken(0, 3) CAST
            taken(0, 4) 4
            taken(0, 5) CAST
            taken(0, 6) CAST
            taken(0, 7) BAD
            taken(0, -1) BAD
            taken(0, 2147483647) BAD
            taken(0, -2147483648) BAD
            taken(1, 7) BAD
            taken(1, 0) NOTHING
            taken(-1, 6) NOTHING
            taken(2147483647, 0) NOTHING
            taken(-2147483648, 0) NOTHING
            """);
        holds("taken: one of the KIND above is not one under it", """
            thing(0, 0, 0, 0) 0
            thing(1, 0, 0, 0) 1
            thing(2, 0, 0, 0) 2
            thing(3, 0, 0, 0) 3
            thing(5, 0, 0, 0) 4
            thing(6, 0, 0, 0) 5
            taken(0, 1) CAST
            taken(0, 6) CAST
            taken(1, 4) CAST
            taken(2, 5) CAST
            taken(3, 6) CAST
            taken(3, 0) 3
            taken(4, 2) 5
            taken(4, 1) CAST
            taken(5, 3) 6
            taken(5, 6) 6
            taken(5, 5) CAST
            """);
    }
}
