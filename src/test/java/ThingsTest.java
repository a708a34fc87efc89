/** Promises 1 to 9: a new object, things, the pan, the fire, rows. */
public final class ThingsTest {
    private static final Due due = new Due();

    public static void main(String[] args) {
        promise1NewObject();
        promise2Thing();
        promise3Of();
        promise3Gives();
        promise3Weights();
        promise4Put();
        promise5Say();
        promise6Weigh();
        promise7Fire();
        promise8Tip();
        promise9Row();
        due.end();
    }

    private static void promise1NewObject() {
        QuinceEnd x = new QuinceEnd();
        int[] told = {0, 60, 1, 0, 0, 0, 0, -5, -5, 0};
        for (int what = 0; what < told.length; what++) {
            due.is("new: told(" + what + ")", x.told(what), told[what]);
        }
        for (int what = 0; what <= 6; what++) {
            due.is("new: count(" + what + ")", x.count(what), 0);
        }
        due.is("new: of(0, 0)", x.of(0, 0), -10001);
        due.is("new: undo()", x.undo(), -3);
        due.is("new: trace(0)", x.trace(0), -1);
        due.is("new: item(0, 0, 1)", x.item(0, 0, 1), -11);
        due.is("a second object has none of the first's", other().count(0), 0);
    }

    private static QuinceEnd other() {
        new QuinceEnd().thing(0, 0, 0, 0);
        return new QuinceEnd();
    }

    private static void promise2Thing() {
        QuinceEnd x = new QuinceEnd();
        due.is("thing(0, 0, 0, 0)", x.thing(0, 0, 0, 0), 0);
        due.is("thing(6, 9, 20, 1)", x.thing(6, 9, 20, 1), 1);
        due.is("kind -1", x.thing(-1, 0, 0, 0), -1);
        due.is("kind 7", x.thing(7, 0, 0, 0), -1);
        due.is("v -1", x.thing(0, -1, 0, 0), -2);
        due.is("v 10", x.thing(0, 10, 0, 0), -2);
        due.is("weight -1", x.thing(0, 0, -1, 0), -2);
        due.is("weight 21", x.thing(0, 0, 21, 0), -2);
        due.is("whose -1", x.thing(0, 0, 0, -1), -2);
        due.is("whose 2", x.thing(0, 0, 0, 2), -2);
        due.is("kind before v", x.thing(7, 10, 0, 0), -1);
        due.is("what is refused is none", x.count(0), 2);
        for (int i = 2; i < 6; i++) {
            due.is("thing " + i, x.thing(1, 1, 1, 1), i);
        }
        due.is("a seventh", x.thing(0, 0, 0, 0), -4);
        due.is("kind before FULL", x.thing(7, 0, 0, 0), -1);
        due.is("v before FULL", x.thing(0, 10, 0, 0), -2);
        due.is("six", x.count(0), 6);
    }

    private static void promise3Of() {
        QuinceEnd x = new QuinceEnd();
        x.thing(5, 3, 12, 1);
        int[] of = {5, 3, 12, 1, 0, 0, 6, 2097151};
        for (int what = 0; what < of.length; what++) {
            due.is("of(0, " + what + ")", x.of(0, what), of[what]);
        }
        x.put(0);
        due.is("state of one in", x.of(0, 4), 1);
        x.pass(3);
        due.is("time of one in", x.of(0, 5), 3);
        due.is("a secret gives its time too", x.of(0, 6), 9);
        x.say(0);
        due.is("state of one said", x.of(0, 4), 2);
        x.pass(2);
        due.is("time of one said stays", x.of(0, 5), 3);
        due.is("what 8", x.of(0, 8), -10001);
        due.is("what -1", x.of(0, -1), -10001);
        due.is("thing 1", x.of(1, 0), -10001);
        due.is("thing -1", x.of(-1, 0), -10001);
    }

    /** Each kind, with v 4, weight 7 and whose 0, unsaid. */
    private static void promise3Gives() {
        int[] gives = {7, 11, 3, 7, 11, 3, 7};
        for (int kind = 0; kind <= 6; kind++) {
            QuinceEnd x = new QuinceEnd();
            x.thing(kind, 4, 7, 0);
            due.is("gives of kind " + kind, x.of(0, 6), gives[kind]);
        }
        QuinceEnd x = new QuinceEnd();
        x.thing(4, 4, 7, 0);
        x.fire(5);
        due.is("a clove by fire 5", x.of(0, 6), 11);
        x.fire(6);
        due.is("a clove by fire 6", x.of(0, 6), 22);
        givesOfNames();
        givesOfWorries();
        givesBelowZero();
    }

    private static void givesOfNames() {
        QuinceEnd x = new QuinceEnd();
        x.thing(3, 4, 7, 0);
        x.thing(6, 4, 7, 0);
        x.thing(0, 0, 0, 1);
        x.thing(0, 0, 0, 0);
        x.row(1, 0, 5);
        x.row(1, 3, 2);
        due.is("a told one and its row", x.of(1, 6), 12);
        x.pass(3);
        due.is("its row at minute 3", x.of(1, 6), 9);
        x.say(2);
        due.is("another's is said: a name", x.of(0, 6), 7);
        x.put(3);
        due.is("its own is in: a name", x.of(0, 6), 7);
        x.say(3);
        due.is("its own is said: a name", x.of(0, 6), 0);
        due.is("its own is said: a told one gives its row", x.of(1, 6), 2);
        x.pass(1);
        due.is("at minute 4", x.of(1, 6), 5);
        QuinceEnd y = new QuinceEnd();
        y.thing(3, 4, 7, 0);
        y.say(0);
        due.is("a name itself said is no other", y.of(0, 6), 7);
        y.thing(3, 4, 7, 0);
        due.is("the first said, a name behind it", y.of(1, 6), 0);
    }

    private static void givesOfWorries() {
        QuinceEnd x = new QuinceEnd();
        x.thing(2, 9, 1, 0);
        x.thing(5, 9, 2, 0);
        due.is("half of 1", x.of(0, 6), 0);
        x.put(1);
        x.fire(0);
        x.pass(9);
        due.is("a secret in for 9", x.of(1, 6), 10);
        x.pass(1);
        due.is("a secret in for 10", x.of(1, 6), 10);
        Due.read(x, "clear 4 k=2");
        due.is("half of -3", x.of(0, 6), -1);
    }

    private static void givesBelowZero() {
        QuinceEnd x = new QuinceEnd();
        for (int kind = 0; kind < 6; kind++) {
            x.thing(kind, 1, 2, 0);
        }
        x.fire(9);
        Due.read(x, "clear 11 w<20");
        int[] gives = {-9, -8, -4, -9, -16, -4};
        for (int i = 0; i < 6; i++) {
            due.is("gives below 0 of kind " + i, x.of(i, 6), gives[i]);
        }
    }

    private static void promise3Weights() {
        QuinceEnd x = new QuinceEnd();
        x.thing(2, 0, 5, 0);
        x.thing(0, 0, 5, 0);
        x.put(0);
        x.see(2, 4);
        due.is("weights of a worry: 4 and 5", x.of(0, 7), 1 << 4 | 1 << 5);
        due.is("weights of one that is not in", x.of(1, 7), 2097151);
        x.see(0, 0);
        due.is("colour now is seen too", x.of(0, 7), 1 << 4 | 1 << 5);
        x.see(3, 7);
        due.is("weights: none", x.of(0, 7), 0);
        due.is("weight stays", x.of(0, 2), 5);
        due.is("colour stays", x.told(3), 0);
        x.see(-1, 0);
        due.is("without what is seen: all", x.of(0, 7), 2097151);
        Due.read(x, "dark 10 w>19");
        x.see(1, 15);
        due.is("the weight in the tests changes, too", x.of(0, 7), 1 << 20);
        x.see(-1, 0);
        x.see(12, 60);
        due.is("60 at 12 minutes: 5, 6 or 15 each", x.of(0, 7), 0xF << 10 | 1 << 20);
    }

    private static void promise4Put() {
        QuinceEnd x = new QuinceEnd();
        x.thing(0, 0, 1, 0);
        x.thing(0, 0, 1, 0);
        due.is("put(1)", x.put(1), 1);
        due.is("put(0)", x.put(0), 2);
        due.is("both in", x.told(5), 3);
        due.is("put again", x.put(0), -3);
        due.is("put(2)", x.put(2), -1);
        due.is("put(-1)", x.put(-1), -1);
        x.say(0);
        due.is("put one said", x.put(0), -3);
        x.pass(4);
        x.tip();
        due.is("time stays till it is put in", x.of(1, 5), 4);
        x.put(1);
        due.is("time is 0 then", x.of(1, 5), 0);
    }

    private static void promise5Say() {
        QuinceEnd x = new QuinceEnd();
        x.thing(0, 0, 2, 0);
        x.thing(0, 0, 4, 1);
        x.thing(0, 0, 20, 1);
        x.put(1);
        x.fire(7);
        x.pass(2);
        due.is("colour", x.told(3), 56);
        due.is("say(0)", x.say(0), 36);
        due.is("colour is so then", x.told(3), 36);
        due.is("say again", x.say(0), -3);
        due.is("say(3)", x.say(3), -1);
        due.is("say(-1)", x.say(-1), -1);
        due.is("say one in", x.say(1), 0);
        due.is("none in", x.told(5), 0);
        due.is("two said", x.told(6), 3);
        due.is("not below 0", x.say(2), 0);
        QuinceEnd y = new QuinceEnd();
        y.thing(0, 0, 20, 0);
        y.put(0);
        y.pass(3);
        due.is("set at 60", y.told(4), 1);
        due.is("said when it is set", y.say(0), 60);
        due.is("it stays set", y.told(4), 1);
    }

    private static void promise6Weigh() {
        QuinceEnd x = new QuinceEnd();
        x.thing(0, 0, 7, 0);
        due.is("weigh(0, 20)", x.weigh(0, 20), 7);
        due.is("weigh(0, 0)", x.weigh(0, 0), 20);
        due.is("weigh(0, 21)", x.weigh(0, 21), -2);
        due.is("weigh(0, -1)", x.weigh(0, -1), -2);
        due.is("weigh(1, 0)", x.weigh(1, 0), -1);
        due.is("NONE before BAD", x.weigh(1, 21), -1);
        due.is("weight", x.of(0, 2), 0);
    }

    private static void promise7Fire() {
        QuinceEnd x = new QuinceEnd();
        due.is("fire(9)", x.fire(9), 1);
        due.is("fire(0)", x.fire(0), 9);
        due.is("fire(10)", x.fire(10), -2);
        due.is("fire(-1)", x.fire(-1), -2);
        due.is("fire stays", x.told(2), 0);
    }

    private static void promise8Tip() {
        QuinceEnd x = new QuinceEnd();
        x.thing(0, 0, 20, 0);
        x.thing(0, 0, 20, 0);
        x.thing(0, 0, 0, 0);
        x.put(0);
        x.put(1);
        x.say(2);
        x.pass(2);
        due.is("set", x.told(4), 1);
        due.is("tip()", x.tip(), 2);
        due.is("colour", x.told(3), 0);
        due.is("not set", x.told(4), 0);
        due.is("none in", x.told(5), 0);
        due.is("said stays", x.told(6), 4);
        due.is("unsaid", x.of(0, 4), 0);
        due.is("minute stays", x.told(0), 2);
        due.is("tip() of nothing", x.tip(), 0);
    }

    private static void promise9Row() {
        QuinceEnd x = new QuinceEnd();
        x.thing(6, 0, 0, 0);
        x.thing(3, 0, 0, 0);
        due.is("row(0, 0, 9)", x.row(0, 0, 9), 0);
        due.is("row(0, 0, 1)", x.row(0, 0, 1), 9);
        due.is("row(0, 3, 4)", x.row(0, 3, 4), 0);
        due.is("row(0, 3, 0)", x.row(0, 3, 0), 4);
        due.is("row(0, 4, 0)", x.row(0, 4, 0), -1);
        due.is("row(0, -1, 0)", x.row(0, -1, 0), -1);
        due.is("row(2, 0, 0)", x.row(2, 0, 0), -1);
        due.is("row(0, 0, 10)", x.row(0, 0, 10), -2);
        due.is("row(0, 0, -1)", x.row(0, 0, -1), -2);
        due.is("row(1, 0, 0)", x.row(1, 0, 0), -3);
        due.is("NONE before BAD", x.row(1, 4, 10), -1);
        due.is("BAD before STATE", x.row(1, 0, 10), -2);
        due.is("row stays", x.row(0, 0, 1), 1);
    }
}
