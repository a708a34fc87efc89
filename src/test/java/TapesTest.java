/** Promises 33 to 36: tapes. */
public final class TapesTest {
    private static final Due due = new Due();
    private static final long NO = Long.MIN_VALUE;

    public static void main(String[] args) {
        promise33Tape();
        promise34Item();
        promise35Read();
        promise36Shift();
        due.end();
    }

    private static void promise33Tape() {
        QuinceEnd x = new QuinceEnd();
        due.is("tape(0, 0, 60)", x.tape(0, 0, 60), 1);
        due.is("its last item", x.read(0, 59), 0);
        due.is("tape(5, 4, 0)", x.tape(5, 4, 0), 1);
        due.is("a row of none", x.item(5, 0, 1), -13);
        due.is("tape(6, 0, 1)", x.tape(6, 0, 1), -1);
        due.is("tape(-1, 0, 1)", x.tape(-1, 0, 1), -1);
        due.is("tape(0, 5, 1)", x.tape(0, 5, 1), -2);
        due.is("tape(0, -2, 1)", x.tape(0, -2, 1), -2);
        due.is("tape(0, 0, 61)", x.tape(0, 0, 61), -2);
        due.is("tape(0, 0, -1)", x.tape(0, 0, -1), -14);
        due.is("NONE before BAD", x.tape(6, 5, 1), -1);
        due.is("BAD before SIZE", x.tape(0, 5, -1), -2);
        due.is("it stays", x.item(0, 59, 7), 1);
        due.is("nothing, n does not matter", x.tape(0, -1, -9), 1);
        due.is("nothing is there", x.read(0, 59), NO);
        due.is("not even at 0", x.read(0, 0), NO);
        x.tape(0, 0, 60);
        due.is("all 0 again", x.read(0, 59), 0);
        x.item(0, 0, 7);
        x.tape(0, 3, 1);
        due.is("all 0 of another sort", x.read(0, 0), 0);
        due.is("NONE before nothing", x.tape(6, -1, 0), -1);
    }

    private static void item(int sort, long v, long want) {
        QuinceEnd x = new QuinceEnd();
        x.tape(sort, sort, 3);
        due.is("item of sort " + sort, x.item(sort, 2, v), 1);
        due.is(v + " of sort " + sort, x.read(sort, 2), want);
        due.is("the item beside it", x.read(sort, 1), 0);
    }

    private static void promise34Item() {
        item(0, 127, 127);
        item(0, 128, -128);
        item(0, -257, -1);
        item(1, 32768, -32768);
        item(1, 65537, 1);
        item(2, 2147483648L, -2147483648L);
        item(2, 1L << 32, 0);
        item(3, Long.MIN_VALUE, Long.MIN_VALUE);
        item(3, Long.MAX_VALUE, Long.MAX_VALUE);
        item(4, 0, 0);
        item(4, -1, 1);
        item(4, 1L << 40, 1);
        QuinceEnd x = new QuinceEnd();
        x.tape(0, 2, 3);
        due.is("tape 6", x.item(6, 0, 0), -1);
        due.is("tape -1", x.item(-1, 0, 0), -1);
        due.is("nothing there", x.item(1, 0, 0), -11);
        due.is("place 3", x.item(0, 3, 0), -13);
        due.is("place -1", x.item(0, -1, 0), -13);
        due.is("NOTHING before PLACE", x.item(1, -1, 0), -11);
    }

    private static void promise35Read() {
        QuinceEnd x = new QuinceEnd();
        x.tape(0, 2, 3);
        x.item(0, 0, -5);
        due.is("read(0, 0)", x.read(0, 0), -5);
        due.is("read(0, 3)", x.read(0, 3), NO);
        due.is("read(0, -1)", x.read(0, -1), NO);
        due.is("read(1, 0)", x.read(1, 0), NO);
        x.tape(5, 4, 1);
        x.item(5, 0, 2);
        due.is("read(5, 0)", x.read(5, 0), 1);
        due.is("read(6, 0)", x.read(6, 0), NO);
        due.is("read(-1, 0)", x.read(-1, 0), NO);
    }

    private static long digits(QuinceEnd x, int tape, int n) {
        long all = 0;
        for (int i = 0; i < n; i++) {
            all = all * 10 + x.read(tape, i);
        }
        return all;
    }

    private static void promise36Shift() {
        QuinceEnd x = new QuinceEnd();
        x.tape(0, 1, 5);
        x.tape(1, 1, 3);
        x.tape(2, 2, 5);
        for (int i = 0; i < 5; i++) {
            x.item(0, i, i + 1);
        }
        due.is("to another", x.shift(0, 2, 1, 0, 3), 3);
        due.is("it has come", digits(x, 1, 3), 345);
        due.is("it stays", digits(x, 0, 5), 12345);
        due.is("on, over itself", x.shift(0, 0, 0, 1, 4), 4);
        due.is("as they were before", digits(x, 0, 5), 11234);
        due.is("back, over itself", x.shift(0, 2, 0, 0, 3), 3);
        due.is("as they were", digits(x, 0, 5), 23434);
        due.is("none at the end", x.shift(0, 5, 1, 3, 0), 0);
        due.is("none beyond the end", x.shift(0, 6, 1, 3, 0), -13);
        due.is("none beyond the other's end", x.shift(0, 5, 1, 4, 0), -13);
        due.is("beyond the end", x.shift(0, 3, 1, 0, 3), -13);
        due.is("beyond the other's end", x.shift(0, 0, 1, 1, 3), -13);
        due.is("n -1", x.shift(0, 0, 1, 0, -1), -13);
        due.is("i -1", x.shift(0, -1, 1, 0, 1), -13);
        due.is("j -1", x.shift(0, 0, 1, -1, 1), -13);
        due.is("far", x.shift(0, Integer.MAX_VALUE, 1, 0, Integer.MAX_VALUE), -13);
        x.tape(5, 0, 60);
        x.tape(4, 0, 60);
        x.item(5, 59, 8);
        due.is("whole rows of 60", x.shift(5, 0, 4, 0, 60), 60);
        due.is("their last", x.read(4, 59), 8);
        due.is("to the last tape", x.shift(4, 59, 5, 0, 1), 1);
        due.is("its first", x.read(5, 0), 8);
        due.is("other sorts", x.shift(0, 0, 2, 0, 1), -12);
        due.is("nothing there", x.shift(0, 0, 3, 0, 1), -11);
        due.is("nothing here", x.shift(3, 0, 0, 0, 1), -11);
        due.is("tape 6", x.shift(6, 0, 0, 0, 1), -1);
        due.is("other -1", x.shift(0, 0, -1, 0, 1), -1);
        due.is("NONE before NOTHING", x.shift(3, 0, 6, 0, 1), -1);
        due.is("CAST before PLACE", x.shift(0, -1, 2, 0, 1), -12);
        due.is("all stays", digits(x, 0, 5) * 1000 + digits(x, 1, 3), 23434345L);
    }
}
