/** Promises 22 to 32: plans, books, judging, the image, acts, kinds, counts. */
public final class PlansTest {
    private static final Due due = new Due();

    public static void main(String[] args) {
        promise22Plan();
        promise23Ends();
        promise24Book();
        promise25Looked();
        promise26Judge();
        promise27Image();
        promise28Undo();
        promise29Act();
        promise30Trace();
        promise31Taken();
        promise32Count();
        due.end();
    }

    private static void promise22Plan() {
        QuinceEnd x = new QuinceEnd();
        x.thing(0, 0, 1, 0);
        due.is("a minute, n does not matter", x.plan(0, 999), 1);
        due.is("plan(1, 0)", x.plan(1, 0), 2);
        due.is("plan(2, 0)", x.plan(2, 0), 3);
        due.is("plan(3, 9)", x.plan(3, 9), 4);
        due.is("plan(3, 0)", x.plan(3, 0), 5);
        due.is("plan(4, 0)", x.plan(4, 0), -1);
        due.is("plan(-2, 0)", x.plan(-2, 0), -1);
        due.is("plan(1, 1)", x.plan(1, 1), -1);
        due.is("plan(2, -1)", x.plan(2, -1), -1);
        due.is("plan(3, 10)", x.plan(3, 10), -2);
        due.is("plan(3, -1)", x.plan(3, -1), -2);
        for (int n = 6; n <= 10; n++) {
            due.is("row " + n, x.plan(0, -1), n);
        }
        due.is("an eleventh", x.plan(0, 0), -4);
        due.is("NONE before FULL", x.plan(1, 1), -1);
        due.is("BAD before FULL", x.plan(3, 10), -2);
        due.is("ten", x.count(3), 10);
        due.is("plan(-1, 77)", x.plan(-1, 77), 0);
        due.is("none", x.count(3), 0);
        due.is("the first again", x.plan(0, 0), 1);
    }

    private static void promise23Ends() {
        QuinceEnd x = new QuinceEnd();
        x.thing(0, 0, 3, 0);
        x.thing(5, 0, 4, 0);
        due.is("an empty plan", x.ends(0), 0);
        x.plan(1, 0);
        x.plan(0, 0);
        x.plan(3, 5);
        x.plan(0, 0);
        due.is("3, and 5 times 3", x.ends(0), 18);
        due.is("in", x.ends(1), 1);
        x.plan(1, 1);
        x.plan(0, 0);
        x.plan(1, 1);
        x.plan(0, 0);
        due.is("put in again does nothing: 25, and 5 times 3 and 3", x.ends(0), 18 + 25 + 30);
        due.is("both in", x.ends(1), 3);
        x.plan(2, 0);
        due.is("said when it is set", x.ends(0), 73);
        due.is("one in", x.ends(1), 2);
        due.is("ends(2)", x.ends(2), -1);
        due.is("ends(-1)", x.ends(-1), -1);
        due.is("it changes nothing", x.told(3) + x.told(5) + x.told(6) + x.told(0), 0);
        due.is("nor the fire", x.told(2), 1);
        x.plan(-1, 0);
        x.put(1);
        x.pass(3);
        due.is("4 halves, and 0 and 1 and 2", x.told(3), 9);
        x.plan(2, 0);
        x.plan(2, 0);
        x.plan(1, 0);
        due.is("said, once", x.ends(0), 0);
        due.is("put in when said: not", x.ends(1), 2);
        x.say(0);
        x.pass(5);
        x.plan(0, 0);
        due.is("what is said is not said again", x.ends(0), 35 + 10);
    }

    private static void promise24Book() {
        QuinceEnd x = new QuinceEnd();
        x.thing(0, 0, 1, 0);
        due.is("book(0, 0)", x.book(0, 0), 1);
        due.is("book(0, 20)", x.book(0, 20), 2);
        due.is("book(1, 0)", x.book(1, 0), -1);
        due.is("book(-2, 0)", x.book(-2, 0), -1);
        due.is("book(0, 21)", x.book(0, 21), -2);
        due.is("book(0, -1)", x.book(0, -1), -2);
        due.is("NONE before BAD", x.book(1, 21), -1);
        for (int n = 3; n <= 8; n++) {
            due.is("row " + n, x.book(0, 1), n);
        }
        due.is("a ninth", x.book(0, 1), -4);
        due.is("BAD before FULL", x.book(0, 21), -2);
        due.is("eight", x.count(4), 8);
        due.is("book(-1, 99)", x.book(-1, 99), 0);
        due.is("none", x.count(4), 0);
    }

    private static void promise25Looked() {
        QuinceEnd x = new QuinceEnd();
        x.thing(0, 0, 1, 0);
        x.thing(0, 0, 2, 0);
        due.is("an empty book", x.looked(), -5);
        x.book(1, 2);
        x.book(0, 1);
        x.book(0, 1);
        due.is("all are so", x.looked(), -5);
        x.weigh(0, 5);
        due.is("the first that is otherwise", x.looked(), 1);
        x.weigh(1, 5);
        due.is("the very first", x.looked(), 0);
        x.weigh(1, 2);
        x.weigh(0, 1);
        due.is("all are so again", x.looked(), -5);
    }

    private static void promise26Judge() {
        QuinceEnd x = new QuinceEnd();
        x.tape(0, 3, 5);
        x.tape(1, 2, 5);
        due.is("no things", x.judge(0, 0), -5);
        due.is("no things, place below 0", x.judge(0, -1), -5);
        due.is("no things, nothing there", x.judge(2, 0), -5);
        due.is("no things, no longs", x.judge(1, 0), -12);
        for (int i = 0; i < 3; i++) {
            x.thing(0, 0, 0, 0);
            x.put(i);
            x.pass(2);
        }
        x.item(0, 1, 6);
        x.item(0, 2, 4);
        x.item(0, 3, 2);
        due.is("all are so", x.judge(0, 1), -5);
        due.is("the first is otherwise", x.judge(0, 0), 0);
        due.is("it ends ahead of all", x.judge(0, 5), 100);
        x.item(0, 4, 6);
        due.is("one was looked at", x.judge(0, 4), 101);
        x.item(0, 3, 6);
        due.is("the third is otherwise", x.judge(0, 1), 2);
        x.item(0, 4, 4);
        due.is("two were looked at", x.judge(0, 3), 102);
        x.item(0, 4, 5);
        due.is("the second is otherwise", x.judge(0, 3), 1);
        x.item(0, 3, 6 + (1L << 32));
        due.is("longs are compared as longs", x.judge(0, 3), 0);
        due.is("place below 0", x.judge(0, -1), 100);
        due.is("a place far beyond", x.judge(0, Integer.MAX_VALUE), 100);
        due.is("nothing there", x.judge(2, 0), 100);
        due.is("judge(1, 0)", x.judge(1, 0), -12);
        due.is("judge(6, 0)", x.judge(6, 0), -1);
        due.is("judge(-1, 0)", x.judge(-1, 0), -1);
        x.tape(0, 3, 0);
        due.is("an empty row", x.judge(0, 0), 100);
        due.is("the last tape", x.judge(5, 0), 100);
    }

    private static void promise27Image() {
        QuinceEnd x = new QuinceEnd();
        due.is("image of nothing", x.image(), 0);
        x.thing(0, 0, 0, 0);
        due.is("image of one", x.image(), 1);
        x.fire(4);
        x.undo();
        due.is("fire is as then", x.told(2), 1);
        x.fire(5);
        x.image();
        x.fire(6);
        x.undo();
        due.is("the newest image counts", x.told(2), 5);
    }

    private static void promise28Undo() {
        QuinceEnd x = new QuinceEnd();
        due.is("no image", x.undo(), -3);
        x.thing(5, 1, 2, 0);
        x.thing(6, 3, 4, 1);
        x.row(1, 2, 7);
        x.put(0);
        x.fire(3);
        x.pass(5);
        x.see(1, 63);
        x.plan(3, 2);
        x.plan(0, 0);
        x.book(0, 2);
        x.book(1, 3);
        x.image();
        int[] told = tellAll(x);
        changeAll(x);
        due.is("undo()", x.undo(), 2);
        int[] again = tellAll(x);
        for (int i = 0; i < told.length; i++) {
            due.is("as the image: " + i, again[i], told[i]);
        }
        due.is("no third thing", x.of(2, 0), -10001);
        due.is("the row", x.row(1, 2, 7), 7);
        due.is("no kitchen holds", x.told(1), 60);
        due.is("kitchens stay", x.count(1), 1);
        due.is("tapes stay", x.read(0, 0), 9);
        due.is("the trace stays", x.trace(0), 10);
        due.is("the text stays", x.count(5), 1);
        x.thing(0, 0, 0, 0);
        due.is("a new third thing is new", x.of(2, 4) + x.of(2, 5), 0);
        due.is("undo() again", x.undo(), 2);
        due.is("the next kitchen", kitchenBehindUndo(x), 1);
        x.undo();
        due.is("it does not hold then", x.told(1), 60);
    }

    private static int kitchenBehindUndo(QuinceEnd x) {
        x.kitchen();
        return Due.read(x, "need 3");
    }

    private static void changeAll(QuinceEnd x) {
        x.thing(6, 9, 9, 0);
        x.row(1, 2, 1);
        x.weigh(0, 20);
        x.put(2);
        x.pass(7);
        x.say(0);
        x.fire(9);
        x.see(2, 2);
        x.plan(-1, 0);
        x.plan(1, 1);
        x.plan(0, 0);
        x.plan(2, 0);
        x.book(-1, 0);
        x.book(1, 3);
        x.book(0, 2);
        x.see(-1, 0);
        x.see(12, 50);
        Due.read(x, "need 50");
        x.tape(0, 0, 1);
        x.item(0, 0, 9);
        x.thing(0, 0, 0, 0);
        x.act(3, 0, 0);
        x.feed('n');
    }

    private static int[] tellAll(QuinceEnd x) {
        return new int[] {x.count(0), x.count(2), x.count(3), x.count(4), x.told(0), x.told(1), x.told(2), x.told(3),
            x.told(4), x.told(5), x.told(6), x.told(8), x.of(0, 2), x.of(0, 4), x.of(0, 5), x.of(0, 7), x.of(1, 6),
            x.can(0, 0), x.looked(), x.ends(0), x.ends(1)};
    }

    private static void promise29Act() {
        int[][] acts = {
            {9, 5, 10}, {9, 3, 6}, {25, 21, 42}, {9, 5, 8}, {-9, -12, -24}, {25, 21, 36}, {13, 12, 29}
        };
        for (int kind = 0; kind <= 6; kind++) {
            QuinceEnd x = new QuinceEnd();
            x.thing(0, 0, 0, 0);
            x.thing(kind, 4, 0, 0);
            for (int act = 0; act < 3; act++) {
                due.is("act " + act + " of kind " + kind, x.act(1, act, 8), acts[kind][act]);
            }
        }
        QuinceEnd x = new QuinceEnd();
        x.thing(2, 1, 0, 0);
        due.is("wrapping", x.act(0, 1, Integer.MAX_VALUE), Integer.MAX_VALUE * 3 - 1);
        due.is("act 3", x.act(0, 3, 1), 0);
        due.is("act -1", x.act(0, -1, 1), 0);
        due.is("thing 1", x.act(1, 0, 1), 0);
        due.is("thing -1", x.act(-1, 0, 1), 0);
    }

    private static void trace(int kind, int act, int... bodies) {
        QuinceEnd x = new QuinceEnd();
        x.thing(kind, 4, 0, 0);
        due.is("no trace at first", x.trace(0), -1);
        x.act(0, 2, 1);
        x.act(0, act, 1);
        due.is("bodies of act " + act + " of kind " + kind, x.count(6), bodies.length);
        for (int i = 0; i < bodies.length; i++) {
            due.is("body " + i + " of act " + act + " of kind " + kind, x.trace(i), bodies[i]);
        }
        due.is("no more", x.trace(bodies.length), -1);
        due.is("none at -1", x.trace(-1), -1);
        x.act(0, 3, 1);
        due.is("no trace by no such act", x.trace(0), -1);
        due.is("none ran", x.count(6), 0);
        x.act(0, act, 1);
        x.act(1, act, 1);
        due.is("no trace by no such thing", x.trace(0), -1);
    }

    private static void promise30Trace() {
        trace(0, 0, 10);
        trace(0, 1, 11, 10);
        trace(0, 2, 12, 11, 10);
        trace(1, 2, 12, 20, 11, 10);
        trace(2, 0, 30, 10);
        trace(3, 2, 40, 12, 11, 10, 11, 10);
        trace(4, 0, 50, 10);
        trace(4, 2, 12, 51, 20, 11, 50, 10);
        trace(5, 2, 60, 12, 11, 30, 10);
        trace(6, 1, 70, 11, 71, 10, 10);
        trace(6, 2, 40, 12, 70, 11, 71, 10, 10, 70, 11, 71, 10, 10);
    }

    private static void promise31Taken() {
        String under = "0 01 02 03 014 025 036";
        String[] kinds = under.split(" ");
        for (int kind = 0; kind <= 6; kind++) {
            QuinceEnd x = new QuinceEnd();
            x.thing(kind, 0, 0, 0);
            for (int k = 0; k <= 6; k++) {
                due.is(kind + " taken for " + k, x.taken(0, k), kinds[kind].indexOf('0' + k) >= 0 ? kind : -12);
            }
            due.is("k -1", x.taken(0, -1), -2);
            due.is("k 7", x.taken(0, 7), -2);
            due.is("no such thing", x.taken(1, 0), -11);
            due.is("thing -1", x.taken(-1, 0), -11);
            due.is("BAD before NOTHING", x.taken(1, 7), -2);
        }
    }

    private static void promise32Count() {
        QuinceEnd x = new QuinceEnd();
        for (int i = 0; i < 3; i++) {
            x.thing(3, 0, 0, 0);
        }
        Due.read(x, "need 1");
        Due.read(x, "need 1");
        x.see(0, 0);
        x.plan(0, 0);
        x.plan(0, 0);
        x.plan(0, 0);
        x.plan(0, 0);
        for (int i = 0; i < 5; i++) {
            x.book(0, 0);
        }
        for (int i = 0; i < 7; i++) {
            x.feed('n');
        }
        x.act(0, 2, 1);
        int[] counts = {3, 2, 1, 4, 5, 7, 6};
        for (int what = 0; what < counts.length; what++) {
            due.is("count(" + what + ")", x.count(what), counts[what]);
        }
        due.is("count(7)", x.count(7), -2);
        due.is("count(-1)", x.count(-1), -2);
    }
}
