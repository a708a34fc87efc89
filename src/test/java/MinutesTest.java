/** Promises 13 to 21: minutes, what to put in, what is seen, odds and means. */
public final class MinutesTest {
    private static final Due due = new Due();
    private static final long NO = Long.MIN_VALUE;

    public static void main(String[] args) {
        promise13Pass();
        promise13MinuteByMinute();
        promise13ToTheEnd();
        promise14On();
        promise15Best();
        promise15BestOfSeveral();
        promise16Enough();
        promise17Flame();
        promise18See();
        promise19Can();
        promise20Odds();
        promise21Mean();
        due.end();
    }

    private static void promise13Pass() {
        QuinceEnd x = new QuinceEnd();
        due.is("pass(0)", x.pass(0), 0);
        due.is("pass(60)", x.pass(60), 60);
        due.is("pass(1)", x.pass(1), 61);
        due.is("pass(61)", x.pass(61), -2);
        due.is("pass(-1)", x.pass(-1), -2);
        due.is("minute stays", x.told(0), 61);
        due.is("not set: need is 60", x.told(4), 0);
        Due.read(x, "need 0");
        due.is("not set before a minute goes", x.told(4), 0);
        x.pass(1);
        due.is("set by a minute with need 0", x.told(4), 1);
    }

    private static void promise13MinuteByMinute() {
        QuinceEnd x = new QuinceEnd();
        x.thing(0, 0, 20, 0);
        x.thing(5, 0, 0, 0);
        Due.read(x, "dark 10 m=1;clear 50 m=2&p=0;need 90");
        x.put(0);
        x.put(1);
        x.fire(2);
        x.pass(1);
        due.is("minute 0: 20 and 0", x.told(3), 40);
        x.pass(1);
        due.is("minute 1: 30, and 5 and time 1", x.told(3), 112);
        x.pass(1);
        due.is("minute 2: -30, and time 2", x.told(3), 56);
        x.fire(9);
        Due.read(x, "clear 99 p=0");
        x.pass(1);
        due.is("not below 0", x.told(3), 0);
        due.is("times", x.of(0, 5) * 10 + x.of(1, 5), 44);
        Due.read(x, "need 44");
        x.pass(2);
        due.is("9 times 20 and 4, 9 times 20 and 5", x.told(3), 441);
        x.pass(4);
        due.is("it is set, and stays", x.told(3), 441);
        due.is("it is set", x.told(4), 1);
        due.is("time goes on", x.of(1, 5), 10);
    }

    private static void promise13ToTheEnd() {
        QuinceEnd x = new QuinceEnd();
        x.thing(5, 0, 0, 0);
        x.put(0);
        for (int n = 60; n <= 9960; n += 60) {
            due.is("minute " + n, x.pass(60), n);
        }
        due.is("beyond 9999", x.pass(40), -3);
        due.is("BAD before STATE", x.pass(61), -2);
        due.is("to 9999", x.pass(39), 9999);
        due.is("one more", x.pass(1), -3);
        due.is("none more", x.pass(0), 9999);
        due.is("time", x.of(0, 5), 9999);
        x.tip();
        x.thing(6, 0, 0, 0);
        x.row(1, 0, 3);
        x.row(1, 3, 1);
        x.put(1);
        due.is("on beyond 9999", x.on(5, 0), 1 + 3 + 0 + 0 + 1);
        Due.read(x, "need 99;dark 99 k=6");
        x.fire(9);
        due.is("far", x.on(60, 0), 1818);
    }

    private static void promise14On() {
        QuinceEnd x = new QuinceEnd();
        x.thing(0, 0, 20, 0);
        x.put(0);
        due.is("on(0, 0)", x.on(0, 0), 0);
        due.is("on(2, 0)", x.on(2, 0), 40);
        due.is("on(2, 1)", x.on(2, 1), 0);
        due.is("on(3, 1)", x.on(3, 1), 1);
        due.is("on(60, 0)", x.on(60, 0), 60);
        due.is("on(61, 0)", x.on(61, 0), -2);
        due.is("on(-1, 0)", x.on(-1, 0), -2);
        due.is("on(0, 2)", x.on(0, 2), -1);
        due.is("on(0, -1)", x.on(0, -1), -1);
        due.is("NONE before BAD", x.on(61, 2), -1);
        due.is("it changes nothing", x.told(3) + x.told(0) + x.of(0, 5), 0);
    }

    private static void promise15Best() {
        QuinceEnd x = new QuinceEnd();
        due.is("best of nothing", x.best(1, -1), -5);
        x.thing(0, 0, 1, 0);
        x.thing(0, 0, 6, 0);
        x.thing(0, 0, 9, 0);
        due.is("best(1, -1)", x.best(1, -1), 9);
        due.is("best(1, 0)", x.best(1, 0), 2);
        due.is("best(1, 1)", x.best(1, 1), -5);
        due.is("best(2, -1)", x.best(2, -1), 24);
        due.is("best(2, 0)", x.best(2, 0), 2);
        due.is("best(2, 1)", x.best(2, 1), 1);
        due.is("best(2, 2)", x.best(2, 2), -5);
        due.is("best(3, -1)", x.best(3, -1), 40);
        due.is("best(3, 2)", x.best(3, 2), 0);
        due.is("best(3, 3)", x.best(3, 3), -1);
        due.is("best(3, -2)", x.best(3, -2), -1);
        due.is("best(0, 0)", x.best(0, 0), -2);
        due.is("best(4, 0)", x.best(4, 0), -2);
        due.is("NONE before BAD", x.best(4, 3), -1);
        x.put(2);
        due.is("one is in: it gives, too", x.best(2, -1), 31);
        due.is("its first", x.best(2, 0), 1);
        due.is("two are unsaid", x.best(3, -1), -5);
        due.is("two are unsaid: no row", x.best(3, 0), -5);
        x.say(0);
        due.is("said is not unsaid", x.best(2, -1), -5);
        due.is("it changes nothing", x.told(3) + x.told(5), 4);
    }

    private static void promise15BestOfSeveral() {
        QuinceEnd x = new QuinceEnd();
        x.thing(0, 0, 5, 0);
        x.thing(0, 0, 5, 0);
        x.thing(0, 0, 5, 0);
        due.is("the first of three", x.best(1, 0), 0);
        due.is("the first row", x.best(3, 0) * 100 + x.best(3, 1) * 10 + x.best(3, 2), 12);
        Due.read(x, "clear 20 m=0;dark 1 p=2");
        due.is("none gives at first", x.best(2, -1), 11);
        due.is("the first row of these", x.best(2, 0) * 10 + x.best(2, 1), 2);
        Due.read(x, "need 0");
        due.is("set at once", x.best(3, -1), 5);
        due.is("the first row then", x.best(3, 0) * 100 + x.best(3, 1) * 10 + x.best(3, 2), 12);
    }

    private static void promise16Enough() {
        QuinceEnd x = new QuinceEnd();
        x.thing(0, 0, 10, 0);
        x.thing(0, 0, 20, 0);
        x.thing(0, 0, 20, 0);
        x.thing(0, 0, 10, 0);
        due.is("enough(1): all", x.enough(1), 15);
        due.is("enough(2): two of 20 and 10", x.enough(2), 3);
        due.is("enough(3)", x.enough(3), 2);
        due.is("enough(6)", x.enough(6), 1);
        due.is("enough(12)", x.enough(12), 1);
        due.is("enough(0)", x.enough(0), -2);
        due.is("enough(13)", x.enough(13), -2);
        Due.read(x, "need 7");
        due.is("none", x.enough(1), -5);
        x.put(1);
        due.is("one is in", x.enough(2), 4);
        due.is("none is needed", x.enough(4), 0);
        due.is("it changes nothing", x.told(5) + x.told(3), 2);
        QuinceEnd y = new QuinceEnd();
        due.is("of nothing", y.enough(1), -5);
        for (int i = 0; i < 6; i++) {
            y.thing(0, 0, 10, 0);
        }
        due.is("all six", y.enough(1), 63);
        y.weigh(2, 20);
        due.is("five, the least as bits", y.enough(1), 31);
    }

    private static void promise17Flame() {
        QuinceEnd x = new QuinceEnd();
        x.thing(0, 0, 2, 0);
        x.put(0);
        Due.read(x, "need 50");
        due.is("nearest to 17", x.flame(2, 17), 4);
        due.is("of several the first", x.flame(2, 18), 4);
        due.is("nearest to 19", x.flame(2, 19), 5);
        due.is("nearest to 0", x.flame(1, 0), 0);
        due.is("nearest to 9999", x.flame(20, 9999), 9);
        due.is("flame(0, 0)", x.flame(0, 0), -2);
        due.is("flame(21, 0)", x.flame(21, 0), -2);
        due.is("flame(1, -1)", x.flame(1, -1), -2);
        due.is("flame(1, 10000)", x.flame(1, 10000), -2);
        due.is("fire stays", x.told(2), 1);
        QuinceEnd y = new QuinceEnd();
        due.is("all alike", y.flame(5, 100), 0);
        y.thing(4, 0, 1, 0);
        y.put(0);
        due.is("a clove by 6 or more", y.flame(1, 11), 6);
    }

    private static void promise18See() {
        QuinceEnd x = new QuinceEnd();
        due.is("see(0, 0)", x.see(0, 0), 1);
        due.is("see(12, 9999)", x.see(12, 9999), 2);
        due.is("see(13, 0)", x.see(13, 0), -2);
        due.is("see(-2, 0)", x.see(-2, 0), -2);
        due.is("see(0, 10000)", x.see(0, 10000), -2);
        due.is("see(0, -1)", x.see(0, -1), -2);
        due.is("see 3", x.see(0, 0), 3);
        due.is("see 4", x.see(0, 0), 4);
        due.is("see 5", x.see(0, 0), 5);
        due.is("see 6", x.see(0, 0), -4);
        due.is("BAD before FULL", x.see(13, 0), -2);
        due.is("five", x.count(2), 5);
        due.is("see(-1, -7)", x.see(-1, -7), 0);
        due.is("none", x.count(2), 0);
        due.is("see again", x.see(3, 3), 1);
    }

    private static void promise19Can() {
        QuinceEnd x = new QuinceEnd();
        x.thing(1, 5, 1, 0);
        x.thing(0, 0, 0, 0);
        x.put(0);
        due.is("nothing seen: how many", x.can(0, 0), 10);
        due.is("nothing seen: the least", x.can(0, 1), 0);
        x.see(3, 18);
        due.is("1 and v 5", x.can(0, 0), 1);
        due.is("the least: 5", x.can(0, 1), 5);
        due.is("one not in: none", x.can(1, 0), 10);
        x.see(4, 0);
        due.is("none", x.can(0, 0), 0);
        due.is("the least of none", x.can(0, 1), -5);
        x.see(-1, 0);
        Due.read(x, "dark 2 v>6;clear 3 v=9");
        x.see(1, 9);
        due.is("v in the tests, too: 8 alone, 9 gives 9", x.can(0, 0), 1);
        due.is("the least", x.can(0, 1), 9);
        x.see(-1, 0);
        x.see(12, 60);
        x.see(11, 60);
        due.is("set by then: 6 or 10 a minute", x.can(0, 0), 2);
        due.is("the least by which it is", x.can(0, 1), 5);
        due.is("can(2, 0)", x.can(2, 0), -1);
        due.is("can(-1, 0)", x.can(-1, 0), -1);
        due.is("can(0, 2)", x.can(0, 2), -1);
        due.is("can(0, -1)", x.can(0, -1), -1);
        due.is("v stays", x.of(0, 1), 5);
    }

    private static void promise20Odds() {
        QuinceEnd x = new QuinceEnd();
        due.is("of nothing", x.odds(1, 0), NO);
        for (int weight : new int[] {20, 10, 5, 1, 15, 0}) {
            x.thing(0, 0, weight, 0);
        }
        due.is("odds(4, 0): 20, 15", x.odds(4, 0), 1);
        due.is("odds(4, 1)", x.odds(4, 1), 3);
        due.is("odds(20, 0): all but 1, 0", x.odds(20, 0), 2);
        due.is("odds(20, 1)", x.odds(20, 1), 3);
        due.is("odds(0, 0)", x.odds(0, 0), 0);
        due.is("odds(0, 1)", x.odds(0, 1), 1);
        due.is("odds(21, 0)", x.odds(21, 0), NO);
        due.is("odds(-1, 0)", x.odds(-1, 0), NO);
        due.is("odds(1, 2)", x.odds(1, 2), NO);
        due.is("odds(1, -1)", x.odds(1, -1), NO);
        x.say(3);
        due.is("five unsaid: above", x.odds(4, 0), 2);
        due.is("five unsaid: below", x.odds(4, 1), 5);
        x.put(0);
        due.is("one in: 5, 10, 15 of four", x.odds(3, 0), 1);
        due.is("sure", x.odds(3, 1), 1);
        for (int i : new int[] {1, 2, 4}) {
            x.put(i);
        }
        due.is("one unsaid: above", x.odds(3, 0), 1);
        due.is("one unsaid: below", x.odds(3, 1), 1);
        x.put(5);
        due.is("none unsaid", x.odds(3, 0), NO);
    }

    private static void promise21Mean() {
        QuinceEnd x = new QuinceEnd();
        due.is("of none", x.mean(0), NO);
        x.thing(0, 0, 4, 0);
        x.thing(1, 1, 1, 0);
        x.thing(0, 0, 3, 0);
        due.is("none is in", x.mean(1), NO);
        x.put(0);
        due.is("4 by 1: above", x.mean(0), 4);
        due.is("4 by 1: below", x.mean(1), 1);
        x.put(1);
        due.is("6 by 2: above", x.mean(0), 3);
        due.is("6 by 2: below", x.mean(1), 1);
        x.weigh(1, 2);
        due.is("7 by 2: above", x.mean(0), 7);
        due.is("7 by 2: below", x.mean(1), 2);
        Due.read(x, "clear 5 p<2");
        due.is("-3 by 2: above", x.mean(0), -3);
        due.is("-3 by 2: below", x.mean(1), 2);
        x.put(2);
        due.is("0 by 3: above", x.mean(0), 0);
        due.is("0 by 3: below", x.mean(1), 1);
        due.is("mean(2)", x.mean(2), NO);
        due.is("mean(-1)", x.mean(-1), NO);
    }
}
