/** Promises 10 to 12: the text, kitchens, what is told. */
public final class KitchensTest {
    private static final Due due = new Due();

    public static void main(String[] args) {
        promise10Feed();
        promise11Kitchen();
        promise11Faults();
        promise11Reading();
        promise11WhichHolds();
        promise12Told();
        promise12Sets();
        promise12Word();
        due.end();
    }

    private static void promise10Feed() {
        QuinceEnd x = new QuinceEnd();
        due.is("feed(0)", x.feed(0), 1);
        due.is("feed(127)", x.feed(127), 2);
        due.is("feed(128)", x.feed(128), -2);
        due.is("feed(-1)", x.feed(-1), -2);
        for (int n = 3; n <= 100; n++) {
            due.is("feed " + n, x.feed(' '), n);
        }
        due.is("feed 101", x.feed(' '), -4);
        due.is("BAD before FULL", x.feed(128), -2);
        due.is("signs", x.count(5), 100);
    }

    private static void promise11Kitchen() {
        QuinceEnd x = new QuinceEnd();
        for (int n = 0; n < 6; n++) {
            due.is("kitchen " + n, Due.read(x, "need " + n), n);
            due.is("the text is empty", x.count(5), 0);
            due.is("it holds", x.told(1), 10 * n);
        }
        due.is("a seventh", Due.read(x, "need 9"), -4);
        due.is("the text stays", x.count(5), 6);
        due.is("FULL before a fault", Due.read(x, "?"), -4);
        due.is("the sixth holds", x.told(1), 50);
        due.is("six", x.count(1), 6);
        QuinceEnd y = new QuinceEnd();
        y.thing(0, 0, 1, 0);
        due.is("a fault at the end", Due.read(y, "need 9;dark 7 p=0;dark 8 p=0&x"), -10 - 29);
        due.is("what was read of it holds not", y.told(1) + y.of(0, 6), 61);
        due.is("the next", Due.read(y, "dark 2 p=0"), 0);
        due.is("nor is it left in the next", y.told(1) + y.of(0, 6), 63);
    }

    private static void fault(String text, int place) {
        QuinceEnd x = new QuinceEnd();
        Due.read(x, "need 7");
        due.is("fault of " + text, Due.read(x, text), -10 - place);
        due.is("the text is empty behind " + text, x.count(5), 0);
        due.is("none comes by " + text, x.count(1), 1);
        due.is("the one that held holds behind " + text, x.told(1), 70);
    }

    private static void promise11Faults() {
        fault("", 0);
        fault("x", 0);
        fault("dark", 4);
        fault("drak 1 p=1", 1);
        fault("clean 1 p=1", 4);
        fault("nead 1", 2);
        fault("dark  1 p=1", 5);
        fault("dark 1  p=1", 7);
        fault("dark 1p=1", 6);
        fault("dark 123 p=1", 7);
        fault("dark x p=1", 5);
        fault("dark 1 q=1", 7);
        fault("dark 1 p!1", 8);
        fault("dark 1 p=", 9);
        fault("dark 1 p=x", 9);
        fault("dark 1 p=:", 9);
        fault("dark 1 p=/", 9);
        fault("dark 1 p=1:", 10);
        fault("dark 1 p=123", 11);
        fault("dark 1 p=1&", 11);
        fault("dark 1 p=1|", 11);
        fault("dark 1 p=1||p=2", 11);
        fault("dark 1 p=1)", 10);
        fault("dark 1 (p=1", 11);
        fault("dark 1 (p=1;need 1", 11);
        fault("dark 1 ()", 8);
        fault("dark 1 ((((p=1)))))", 18);
        fault("dark 1 (((((p=1)))))", 11);
        fault("dark 1 !!!!!p=1", 11);
        fault("dark 1 !(!(!p=1))", 11);
        fault("dark 1 p=1;", 11);
        fault(";need 1", 0);
        fault("need 1;;need 1", 7);
        fault("need", 4);
        fault("dark 0 p=1;dark 00 p=00;x", 24);
        fault("need 1 p=1", 6);
        fault("need 123", 7);
        fault("need 1\n", 6);
        fault(" need 1", 0);
        fault("need 1;need 1;need 1;need 1;need 1;need 1;need 1;need 1;need 1;need 1;need 1", 69);
    }

    private static void promise11Reading() {
        holds("p=0", 0, 1);
        holds("p<1", 0, 1);
        holds("p>0", 0, 0);
        holds("k=4", 0, 1);
        holds("k>4", 0, 0);
        holds("v=7", 0, 1);
        holds("v<07", 0, 0);
        holds("w=13", 0, 1);
        holds("w>12", 0, 1);
        holds("w<13", 0, 0);
        holds("o=1", 0, 1);
        holds("m=3", 13, 1);
        holds("m=13", 13, 0);
        holds("!p=0", 0, 0);
        holds("!p=0|k=4", 0, 1);
        holds("!(p=0|k=4)", 0, 0);
        holds("p=1&k=1|v=7", 0, 1);
        holds("v=7|p=1&k=1", 0, 1);
        holds("(v=7|p=1)&k=1", 0, 0);
        holds("k=1&(v=7|p=1)", 0, 0);
        holds("!!!!p=0", 0, 1);
        holds("((((p=0))))", 0, 1);
        holds("p=1|p=2|p=0", 0, 1);
        holds("p=0&k=4&v=6", 0, 0);
        holds("!p=1&!(k=3|k=5)&(o=1&w>1)", 0, 1);
    }

    /** Whether a clove with v 7, weight 13, of 1, has it, behind so many minutes. */
    private static void holds(String e, int minutes, int want) {
        QuinceEnd x = new QuinceEnd();
        x.thing(4, 7, 13, 1);
        x.pass(minutes);
        due.is("reading " + e, Due.read(x, "dark 5 " + e), 0);
        due.is("dark 5 " + e, x.of(0, 6), 20 + 5 * want);
        due.is("reading clear " + e, Due.read(x, "clear 99 " + e + ";dark 03 m<10"), 1);
        due.is("clear 99 " + e, x.of(0, 6), 23 - 99 * want);
    }

    private static void promise11WhichHolds() {
        QuinceEnd x = new QuinceEnd();
        x.thing(0, 0, 1, 0);
        Due.read(x, "need 1;dark 2 p=0;need 40;dark 3 p=0;clear 1 p=0");
        due.is("the last need", x.told(1), 400);
        due.is("all clauses", x.of(0, 6), 5);
        Due.read(x, "dark 10 p=0");
        due.is("only the newest holds", x.of(0, 6), 11);
        due.is("need without", x.told(1), 60);
        String ten = "need 1;need 1;need 1;need 1;need 1;need 1;need 1;need 1;need 1;need 99";
        due.is("ten clauses", Due.read(x, ten), 2);
        due.is("the tenth", x.told(1), 990);
    }

    private static void promise12Told() {
        QuinceEnd x = new QuinceEnd();
        x.thing(0, 0, 3, 0);
        x.thing(1, 2, 4, 1);
        x.thing(0, 0, 0, 1);
        x.put(0);
        x.put(1);
        x.say(2);
        x.fire(2);
        x.pass(1);
        int[] told = {1, 60, 2, 18, 0, 3, 4, 3, 1, 9};
        for (int what = 0; what < told.length; what++) {
            due.is("told(" + what + ")", x.told(what), told[what]);
        }
        due.is("asking changes nothing", x.told(3), 18);
        due.is("told(10)", x.told(10), -10001);
        due.is("told(-1)", x.told(-1), -10001);
        x.fire(0);
        Due.read(x, "clear 30 p=0");
        due.is("what all give may be below 0", x.told(9), -21);
    }

    private static void promise12Sets() {
        QuinceEnd x = new QuinceEnd();
        x.thing(0, 0, 1, 0);
        x.put(0);
        due.is("at 60", x.told(7), 60);
        Due.read(x, "need 07");
        due.is("70 is not by then", x.told(7), -5);
        x.pass(10);
        due.is("it goes on from how all is", x.told(7), 60);
        x.pass(60);
        due.is("it is set", x.told(7), 0);
        QuinceEnd y = new QuinceEnd();
        y.thing(0, 0, 1, 0);
        y.put(0);
        Due.read(y, "need 61");
        due.is("not by then", y.told(7), -5);
        due.is("no word by then", y.told(8), -5);
    }

    private static void promise12Word() {
        QuinceEnd x = new QuinceEnd();
        x.thing(0, 0, 1, 0);
        x.thing(0, 0, 5, 0);
        x.thing(0, 0, 5, 0);
        x.put(0);
        x.put(1);
        x.pass(3);
        due.is("sets", x.told(7), 7);
        due.is("a word that lets it down most", x.told(8), 1);
        x.say(1);
        x.pass(18);
        due.is("colour", x.told(3), 18);
        due.is("a word by which it is not by then", x.told(8), 0);
        QuinceEnd y = new QuinceEnd();
        y.thing(0, 0, 0, 0);
        y.thing(0, 0, 20, 0);
        y.put(1);
        y.say(0);
        due.is("only one word", y.told(8), 1);
        y.pass(3);
        due.is("none when it is set", y.told(8), -5);
        QuinceEnd z = new QuinceEnd();
        z.thing(0, 0, 0, 0);
        z.thing(0, 0, 20, 0);
        z.put(1);
        z.thing(3, 0, 20, 0);
        z.put(2);
        due.is("a word by which the name gives nothing, too", z.told(8), 1);
        z.say(1);
        z.tip();
        z.thing(0, 0, 5, 0);
        z.thing(0, 0, 5, 0);
        z.put(3);
        z.put(4);
        due.is("the first of several", z.told(8), 3);
        QuinceEnd a = new QuinceEnd();
        a.thing(3, 0, 2, 1);
        a.thing(0, 0, 0, 0);
        a.thing(0, 0, 0, 1);
        a.put(0);
        a.thing(0, 0, 1, 0);
        a.put(3);
        due.is("said of the same one", a.told(8), 0);
        a.weigh(0, 0);
        Due.read(a, "dark 2 p=0;clear 1 p=3;need 1");
        due.is("the first by which it is not by then", a.told(8), 0);
        a.say(1);
        due.is("said of the other one", a.told(9), 2);
    }
}
