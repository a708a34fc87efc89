/** Terms, part 1, sentence by sentence where one names a bound: THE TEXT, clauses, E, the FAULT, which kitchen holds. */
public final class TermsKitchensTest {
    private static final Due due = new Due();
    /** 95 bytes, of which nothing can be left out. */
    private static final String EIGHT = "dark 99 p<9;".repeat(7) + "dark 99 p<9";

    public static void main(String[] args) {
        text();
        clauses();
        numbers();
        signs();
        within();
        faults();
        whichHolds();
        due.end();
    }

    private static void holds(String sentence, String rows) {
        Script.holds(due, sentence, rows);
    }

    private static void text() {
        holds("A sign (0 .. 127) comes behind THE TEXT's", """
            feed(-1) BAD
            feed(128) BAD
            feed(2147483647) BAD
            feed(-2147483648) BAD
            count(5) 0
            feed(0) 1
            feed(127) 2
            feed(128) BAD
            count(5) 2
            kitchen() -10-0
            """);
        holds("THE TEXT (bytes, 100 at most): the 101st; BAD ahead of FULL", """
            99 x feed(110)
            count(5) 99
            feed(110) 100
            count(5) 100
            feed(110) FULL
            feed(0) FULL
            feed(128) BAD
            feed(-1) BAD
            count(5) 100
            kitchen() -10-1
            count(5) 0
            feed(110) 1
            """);
        holds("THE TEXT of 100 bytes is a KITCHEN", "thing(0, 0, 0, 0) 0\nfeed \"" + EIGHT + "\" 95\n" + """
            feed "&p<9" 99
            feed "9" 100
            feed "9" FULL
            count(5) 100
            kitchen() 0
            count(5) 0
            of(0, 6) 792
            """);
        holds("THE TEXT of 100 bytes that ends too early: the FAULT is its end", "feed \"" + EIGHT + "\" 95\n" + """
            feed "&p<9&" 100
            kitchen() -10-100
            count(1) 0
            count(5) 0
            """);
        holds("THE TEXT of 100 bytes: the FAULT is its last byte", "feed \"" + EIGHT + "\" 95\n" + """
            feed "&p<9)" 100
            kitchen() -10-99
            count(1) 0
            """);
        holds("THE TEXT, which is empty then: no byte of it is left", """
            kitchen "need 10" 0
            told(1) 100
            kitchen "need 2" 1
            told(1) 20
            kitchen() -10-0
            kitchen "x" -10-0
            kitchen "need 3" 2
            told(1) 30
            """);
    }

    private static void clauses() {
        holds("CLAUSES, 1 to 10: none is no KITCHEN", """
            kitchen() -10-0
            kitchen "" -10-0
            kitchen ";" -10-0
            kitchen "need 1;" -10-7
            kitchen ";need 1" -10-0
            count(1) 0
            kitchen "need 1" 0
            """);
        holds("CLAUSES, 1 to 10: nine, ten", """
            thing(0, 0, 0, 0) 0
            kitchen "need 1;need 2;need 3;need 4;need 5;need 6;need 7;need 8;need 9" 0
            told(1) 90
            kitchen "need 1;need 2;need 3;need 4;need 5;need 6;need 7;need 8;need 9;dark 7 p=0" 1
            told(1) 90
            of(0, 6) 7
            """);
        holds("CLAUSES, 1 to 10: eleven", """
            kitchen "need 1;need 2;need 3;need 4;need 5;need 6;need 7;need 8;need 9;need 9;need 9" -10-69
            kitchen "need 1;need 2;need 3;need 4;need 5;need 6;need 7;need 8;need 9;need 9;" -10-69
            told(1) 60
            count(1) 0
            """);
        holds("dark n E; clear n E; need n: each word", """
            thing(0, 0, 50, 0) BAD
            thing(0, 0, 20, 0) 0
            kitchen "dark 9 p=0" 0
            of(0, 6) 29
            kitchen "clear 9 p=0" 1
            of(0, 6) 11
            told(1) 60
            kitchen "need 9" 2
            of(0, 6) 20
            told(1) 90
            kitchen "DARK 9 p=0" -10-0
            kitchen "Need 9" -10-0
            kitchen "darker 9 p=0" -10-4
            kitchen "needs 9" -10-4
            kitchen "cleared 9 p=0" -10-5
            told(1) 90
            """);
        holds("one blank ahead of each part behind the word: none or two", """
            kitchen "need9" -10-4
            kitchen "need  9" -10-5
            kitchen "need 9 " -10-6
            kitchen " need 9" -10-0
            kitchen "dark9 p=0" -10-4
            kitchen "dark  9 p=0" -10-5
            kitchen "dark 9p=0" -10-6
            kitchen "dark 99p=0" -10-7
            kitchen "dark 9  p=0" -10-7
            kitchen "dark 9 p =0" -10-8
            kitchen "dark 9 p= 0" -10-9
            kitchen "dark 9 p=0 " -10-10
            kitchen "dark 9 p=0; need 9" -10-11
            kitchen "dark 9 p=0 ;need 9" -10-10
            kitchen "dark 9 p=0& p=0" -10-11
            kitchen "clear9 p=0" -10-5
            kitchen "clear  9 p=0" -10-6
            kitchen "clear 9  p=0" -10-8
            count(1) 0
            """);
    }

    private static void numbers() {
        holds("n 1 or 2 digits: of need", """
            kitchen "need " -10-5
            kitchen "need x" -10-5
            kitchen "need -1" -10-5
            kitchen "need 0" 0
            told(1) 0
            kitchen "need 9" 1
            told(1) 90
            kitchen "need 00" 2
            told(1) 0
            kitchen "need 09" 3
            told(1) 90
            kitchen "need 99" 4
            told(1) 990
            kitchen "need 100" -10-7
            kitchen "need 000" -10-7
            kitchen "need 1x" -10-6
            kitchen "need 10" 5
            told(1) 100
            """);
        holds("n 1 or 2 digits: of dark and clear", """
            thing(0, 0, 0, 0) 0
            kitchen "dark " -10-5
            kitchen "dark p=0" -10-5
            kitchen "dark 100 p=0" -10-7
            kitchen "clear " -10-6
            kitchen "clear p=0" -10-6
            kitchen "clear 100 p=0" -10-8
            kitchen "dark 0 p=0" 0
            of(0, 6) 0
            kitchen "dark 09 p=0" 1
            of(0, 6) 9
            kitchen "dark 99 p=0" 2
            of(0, 6) 99
            kitchen "clear 0 p=0" 3
            of(0, 6) 0
            kitchen "clear 99 p=0" 4
            of(0, 6) -99
            """);
        holds("a number (1 or 2 digits) of a TEST", """
            thing(0, 0, 0, 0) 0
            kitchen "dark 1 w=" -10-9
            kitchen "dark 1 w=/" -10-9
            kitchen "dark 1 w=:" -10-9
            kitchen "dark 1 w=100" -10-11
            kitchen "dark 1 w=000" -10-11
            kitchen "dark 1 w=0" 0
            of(0, 6) 1
            kitchen "dark 1 w=00;dark 2 w<99;dark 4 w<01" 1
            of(0, 6) 7
            kitchen "dark 1 w>99;dark 2 w=99;dark 4 w<0" 2
            of(0, 6) 0
            """);
        holds("signs beside the digits", """
            kitchen "need /" -10-5
            kitchen "need :" -10-5
            kitchen "need 1/" -10-6
            kitchen "need 1:" -10-6
            kitchen "need 12:" -10-7
            count(1) 0
            """);
    }

    private static void signs() {
        holds("a letter", """
            kitchen "dark 1 a=1" -10-7
            kitchen "dark 1 P=1" -10-7
            kitchen "dark 1 q=1" -10-7
            kitchen "dark 1 =1" -10-7
            kitchen "dark 1 1=1" -10-7
            kitchen "dark 1 pp=1" -10-8
            kitchen "dark 1 p=1;dark 2 k<1;dark 3 v>1;dark 1 w=1;dark 2 o<1;dark 3 m>1" 0
            count(1) 1
            """);
        holds("< or = or >: less, the same, more", """
            thing(0, 5, 0, 0) 0
            kitchen "dark 1 v<5;dark 2 v=5;dark 4 v>5" 0
            of(0, 6) 2
            kitchen "dark 1 v<6;dark 2 v=6;dark 4 v>6" 1
            of(0, 6) 1
            kitchen "dark 1 v<4;dark 2 v=4;dark 4 v>4" 2
            of(0, 6) 4
            kitchen "dark 1 v5" -10-8
            kitchen "dark 1 v<=5" -10-9
            kitchen "dark 1 v==5" -10-9
            kitchen "dark 1 v!5" -10-8
            """);
        holds("p its number: the first and the last", """
            6 x thing(0, 0, 0, 0)
            kitchen "dark 1 p=0;dark 2 p=5;dark 4 p>4;dark 8 p<1" 0
            of(0, 6) 9
            of(1, 6) 0
            of(4, 6) 0
            of(5, 6) 6
            """);
        holds("k its KIND, v its v, w its WEIGHT, o WHOSE it is: the least and the greatest", """
            thing(0, 0, 0, 0) 0
            thing(6, 9, 20, 1) 1
            kitchen "dark 1 k=0;dark 2 k=6;dark 4 k>5" 0
            of(0, 6) 1
            of(1, 6) 26
            kitchen "dark 1 v=0;dark 2 v=9;dark 4 v>8" 1
            of(0, 6) 1
            of(1, 6) 26
            kitchen "dark 1 w=0;dark 2 w=20;dark 4 w>19" 2
            of(0, 6) 1
            of(1, 6) 26
            kitchen "dark 1 o=0;dark 2 o=1;dark 4 o>0" 3
            of(0, 6) 1
            of(1, 6) 26
            """);
        holds("k its KIND alone, not one above", """
            thing(4, 0, 0, 0) 0
            kitchen "dark 1 k=4;dark 2 k=1;dark 4 k=0" 0
            of(0, 6) 1
            """);
        holds("E: T or T|E. T: F or F&T: & binds first, and none may be missing", """
            thing(0, 1, 0, 0) 0
            kitchen "dark 1 v=1|v=2&v=3" 0
            of(0, 6) 1
            kitchen "dark 1 (v=1|v=2)&v=3" 1
            of(0, 6) 0
            kitchen "dark 1 v=2&v=3|v=1" 2
            of(0, 6) 1
            kitchen "dark 1 v=1&v=2|v=3&v=1" 3
            of(0, 6) 0
            kitchen "dark 1 v=1&" -10-11
            kitchen "dark 1 v=1|" -10-11
            kitchen "dark 1 &v=1" -10-7
            kitchen "dark 1 |v=1" -10-7
            kitchen "dark 1 v=1&&v=1" -10-11
            kitchen "dark 1 v=1&|v=1" -10-11
            kitchen "dark 1 v=1v=1" -10-10
            """);
        holds("F: !F is of the next F alone; (E)", """
            thing(0, 1, 0, 0) 0
            kitchen "dark 1 !v=2&v=3" 0
            of(0, 6) 0
            kitchen "dark 1 !v=1|v=1" 1
            of(0, 6) 1
            kitchen "dark 1 !(v=1|v=1)" 2
            of(0, 6) 0
            kitchen "dark 1 !!v=1" 3
            of(0, 6) 1
            kitchen "dark 1 !" -10-8
            kitchen "dark 1 ()" -10-8
            kitchen "dark 1 (" -10-8
            kitchen "dark 1 )" -10-7
            kitchen "dark 1 v=1!" -10-10
            kitchen "dark 1 v!=1" -10-8
            kitchen "dark 1 v=1(v=1)" -10-10
            """);
    }

    private static void within() {
        holds("A ( within 4 others is none", """
            thing(0, 0, 0, 0) 0
            kitchen "dark 1 (((p=0)))" 0
            of(0, 6) 1
            kitchen "dark 2 ((((p=0))))" 1
            of(0, 6) 2
            kitchen "dark 3 (((((p=0)))))" -10-11
            kitchen "dark 3 ((((!p=0))))" -10-11
            kitchen "dark 3 (((((" -10-11
            kitchen "dark 3 ((((p=1|(p=0)))))" -10-15
            of(0, 6) 2
            count(1) 2
            """);
        holds("A ! within 4 others is none", """
            thing(0, 0, 0, 0) 0
            kitchen "dark 1 !!!p=0" 0
            of(0, 6) 0
            kitchen "dark 2 !!!!p=0" 1
            of(0, 6) 2
            kitchen "dark 3 !!!!!p=0" -10-11
            kitchen "dark 3 !!!!(p=0)" -10-11
            kitchen "dark 3 !!!!!" -10-11
            of(0, 6) 2
            """);
        holds("A ( or ! within 4 others, ( and ! alike", """
            thing(0, 0, 0, 0) 0
            kitchen "dark 1 !(!(p=0))" 0
            of(0, 6) 1
            kitchen "dark 2 (!(!p=0))" 1
            of(0, 6) 2
            kitchen "dark 3 !(!(!p=0))" -10-11
            kitchen "dark 3 (!(!(p=0)))" -10-11
            kitchen "dark 3 (!(!p=0&!p=0))" 2
            kitchen "dark 3 (!(!p=0&!!p=0))" -10-16
            """);
        holds("A ( or ! beside others is not within them", """
            thing(0, 0, 0, 0) 0
            kitchen "dark 1 !p=1&!p=1&!p=1&!p=1&!p=1&!p=1" 0
            of(0, 6) 1
            kitchen "dark 2 (p=0)&(p=0)&(p=0)&(p=0)&(p=0)&(p=0)" 1
            of(0, 6) 2
            kitchen "dark 3 ((((p=0))))&((((p=0))))&!!!!p=0" 2
            of(0, 6) 3
            kitchen "dark 4 ((((p=1)))|(((p=1)))|!(!p=0))" 3
            of(0, 6) 4
            kitchen "dark 4 ((((p=1)))|(((p=1)))|!(!(!p=0)))" -10-31
            kitchen "dark 5 ((((p=0))));dark 6 ((((p=0))));dark 7 !!!!p=0" 4
            of(0, 6) 18
            """);
    }

    private static void faults() {
        holds("The FAULT: the first byte with which none begins so", """
            kitchen "x" -10-0
            kitchen "0" -10-0
            kitchen "(" -10-0
            kitchen "dx" -10-1
            kitchen "cdark" -10-1
            kitchen "nd" -10-1
            kitchen "dark 1 p=1x" -10-10
            kitchen "dark 1 p=1;x" -10-11
            kitchen "dark 1 p=1;need 1;clear 1 p=1)" -10-29
            kitchen "dark 1 (p=1;need 1)" -10-11
            kitchen "dark 1 p=1,need 1" -10-10
            kitchen "need 1&need 1" -10-6
            kitchen "need p=1" -10-5
            kitchen "need 1 p=1" -10-6
            count(1) 0
            """);
        holds("The FAULT: the end of THE TEXT, if it ends too early", """
            kitchen "" -10-0
            kitchen "d" -10-1
            kitchen "dar" -10-3
            kitchen "dark" -10-4
            kitchen "dark " -10-5
            kitchen "dark 1" -10-6
            kitchen "dark 12" -10-7
            kitchen "dark 12 " -10-8
            kitchen "dark 1 p" -10-8
            kitchen "dark 1 p=" -10-9
            kitchen "dark 1 p=1&" -10-11
            kitchen "dark 1 (p=1" -10-11
            kitchen "dark 1 !" -10-8
            kitchen "c" -10-1
            kitchen "clear" -10-5
            kitchen "clear 1 p=1;" -10-12
            kitchen "n" -10-1
            kitchen "need" -10-4
            kitchen "need " -10-5
            count(1) 0
            """);
        holds("bytes 0 and 127, which are no part of any", """
            feed "need 1" 6
            feed(0) 7
            kitchen() -10-6
            feed "need 1" 6
            feed(127) 7
            kitchen() -10-6
            feed "need" 4
            feed(0) 5
            kitchen() -10-4
            """);
    }

    private static void whichHolds() {
        holds("6 at most: FULL: there are 6 (THE TEXT stays)", """
            kitchen() -10-0
            kitchen "need 1" 0
            kitchen "need 2" 1
            kitchen "need 3" 2
            kitchen "need 4" 3
            kitchen "need 5" 4
            count(1) 5
            kitchen "x" -10-0
            kitchen "need 6" 5
            count(1) 6
            told(1) 60
            kitchen() FULL
            kitchen "need 7" FULL
            count(5) 6
            kitchen() FULL
            count(5) 6
            feed(59) 7
            kitchen() FULL
            count(5) 7
            count(1) 6
            told(1) 60
            """);
        holds("FULL ahead of a FAULT, and the sixth holds", """
            kitchen "need 1" 0
            kitchen "need 1" 1
            kitchen "need 1" 2
            kitchen "need 1" 3
            kitchen "need 1" 4
            kitchen "need 77" 5
            kitchen "x" FULL
            count(5) 1
            kitchen "" FULL
            told(1) 770
            """);
        holds("without one there are no CLAUSES; NEED (60 without)", """
            thing(0, 0, 7, 0) 0
            told(1) 60
            of(0, 6) 7
            kitchen "need 9;dark 9 p=0;x" -10-18
            told(1) 60
            of(0, 6) 7
            count(1) 0
            kitchen "dark 2 p=0" 0
            told(1) 60
            of(0, 6) 9
            """);
        holds("-10 less the FAULT (the one that held holds)", """
            thing(0, 0, 7, 0) 0
            kitchen "need 5;dark 2 p=0" 0
            kitchen "need 9;dark 9 p=0;" -10-18
            told(1) 50
            of(0, 6) 9
            kitchen "" -10-0
            told(1) 50
            of(0, 6) 9
            kitchen "need 8" 1
            told(1) 80
            of(0, 6) 7
            """);
        holds("NEED: ten times the last one's n", """
            kitchen "need 99;need 0" 0
            told(1) 0
            kitchen "need 0;need 99;dark 1 p=0" 1
            told(1) 990
            kitchen "need 1;dark 1 p=0;need 2;clear 1 p=0" 2
            told(1) 20
            kitchen "dark 1 p=0" 3
            told(1) 60
            """);
        holds("The newest KITCHEN holds, all its clauses and none of another's", """
            thing(0, 0, 1, 0) 0
            kitchen "dark 1 p=0;dark 2 p=0;dark 4 p=0;dark 8 p=0;dark 16 p=0;dark 32 p=0;dark 64 p=0;dark 99 p=0" 0
            of(0, 6) 227
            kitchen "dark 3 p=0" 1
            of(0, 6) 4
            kitchen "need 1" 2
            of(0, 6) 1
            """);
    }
}
