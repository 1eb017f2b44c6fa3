/** Promises 10, 11, 28 to 30 and 32, and what a law means: days, draws, what is kept and undone. */
public final class DaysTest {
    private static final String EVERY = "10;a:*>.=1;b:*>.=2;c:*>.=3;d:*>.=4;e:*>.=5;f:*>.=6;g:*>.=7;h:*>.=8";

    public static void main(String[] args) {
        counts();
        without();
        draws();
        likes();
        refusals();
        gifts();
        letters();
        dividedByNothing();
        asMuchAsMatters();
        reckoning();
        nesting();
        prices();
        lastDays();
        trying();
        keeping();
        Due.end();
    }

    /** The question that is asked first by a law; 8: none. */
    private static int first(AskedValley v, String law) {
        Due.is("law " + law, Due.law(v, law) > 0, true);
        return v.tried(1, 5);
    }

    /** Does a test hold (of a new object with a valley)? */
    private static boolean holds(String test) {
        return first(Due.of(EVERY), "e1((" + test + ")&q=0)") == 0;
    }

    /** What a number is, as far as it is 0 to 99 (of a new object with a valley, just ahead of the gift). */
    private static int number(String e) {
        AskedValley v = Due.of(EVERY);
        v.purse(100);
        Due.is("law g" + e, Due.law(v, "e1(q=2);g" + e + "(1=1)"), 2);
        return v.tried(1, 2) - 99;
    }

    private static void counts() {
        AskedValley v = new AskedValley();
        int[] no = {-1, 11, 100, Integer.MAX_VALUE, Integer.MIN_VALUE};
        for (int what : no) {
            Due.is("count " + what, v.count(what), -1);
        }
        int[] none = {0, -1, 101, Integer.MAX_VALUE, Integer.MIN_VALUE};
        for (int n : none) {
            Due.is("days " + n, v.days(n), -1);
            Due.is("tried " + n, v.tried(n, 0), -1);
        }
        Due.is("tried what", v.tried(1, 6), -1);
        Due.is("tried what", v.tried(1, -1), -1);
        Due.same("refused", "0 0 0 0 8 999 0 0 0 0 1 ", Due.all(v));
    }

    private static void without() {
        AskedValley v = new AskedValley();
        Due.law(v, "e1(1=1)");
        Due.is("days without a valley", v.days(2), 0);
        Due.same("days without a valley", "2 0 0 0 8 999 0 0 1 0 61087 ", Due.all(v));
        Due.valley(v, "2");
        Due.is("days with one", v.days(1), 1);
        v = Due.of(EVERY);
        Due.is("days without a law", v.days(100), 0);
        Due.is("the day", v.count(0), 100);
        Due.is("the last question", v.count(4), 8);
    }

    private static void draws() {
        AskedValley v = Due.of(EVERY);
        Due.law(v, "e1(q=w)");
        long x = 1;
        for (int i = 0; i < 50; i++) {
            x = (25173 * x + 13849) % 65536;
            int w = (int) (x % 10);
            Due.is("tried by the draw", v.tried(1, 0), w < 8 ? 1 : 0);
            Due.is("asked by the draw", v.days(1), w < 8 ? 1 : 0);
            if (w < 8) {
                Due.is("the question", v.count(4), w);
            }
            Due.is("X", v.count(10), x);
        }
        v.seed(65535);
        v.days(1);
        Due.is("X", v.count(10), (25173L * 65535 + 13849) % 65536);
        v.seed(0);
        v.days(1);
        Due.is("X", v.count(10), 13849);
    }

    private static void likes() {
        AskedValley v = Due.of(EVERY);
        Due.is("the most", first(v, "e5(q=3);e7(q=5);e6(q=6)"), 5);
        Due.is("the lowest of like ones", first(v, "e5(q>2)"), 3);
        Due.is("the first rule that holds", first(v, "e1(q=3);e9(q>2)"), 4);
        Due.is("the bound above", first(v, "e9999(q=3);e99999(q>1)"), 2);
        Due.is("the bound above", first(v, "e99999(q=5);e9999(q=3)"), 3);
        Due.is("the bound above", first(v, "e9998(q=3);e99999(q=6)"), 6);
        Due.is("not above 0", first(v, "e0(1=1)"), 8);
        Due.is("below 0", first(v, "e0-5(1=1)"), 8);
        Due.is("below 0 and above", first(v, "e0-5(q<7);e1(1=1)"), 7);
        Due.is("none holds", first(v, "e9(q=8)"), 8);
        Due.is("g is no e", first(v, "g9(1=1)"), 8);
        Due.is("e by q", first(v, "e[q-3]*[3-q]+10(1=1)"), 3);
    }

    private static void refusals() {
        AskedValley v = Due.of(EVERY);
        Due.is("refused", first(v, "e1(1=1);x(q=0);x(q<4)"), 4);
        Due.is("refused", first(v, "x(q<4);e1(1=1);x(q=0)"), 4);
        Due.is("all refused", first(v, "x(1=1);e1(1=1)"), 8);
        Due.is("none refused", first(v, "x(1=2);e1(1=1)"), 0);
        Due.is("refused by what is divided", first(v, "x(1/0=0);e1(1=1)"), 0);
        Due.is("refused by what is divided", first(v, "x(!1/0=0);e1(1=1)"), 0);
        Due.is("refused by the other", first(v, "x(1/q=0);e1(1=1)"), 0);
        Due.is("refused by the other", first(v, "x(1/[q-1]>5|q=1);x(1/q=1);e1(q>0)"), 2);
    }

    private static void gifts() {
        Due.is("g", number("7"), 7);
        Due.is("g most", number("99"), 99);
        Due.is("g beyond", number("100"), 99);
        Due.is("g below", number("0-1"), 0);
        AskedValley v = Due.of(EVERY);
        v.purse(9999);
        Due.law(v, "e1(q=0);g99(1=1)");
        Due.is("purse most", v.tried(1, 2), 9999);
        v.purse(9901);
        Due.is("purse most", v.tried(1, 2), 9999);
        v.purse(9900);
        Due.is("purse most", v.tried(1, 2), 9998);
        Due.law(v, "e1(q=4);g5(q=3);g6(q=4);g7(q=4)");
        v.purse(1);
        Due.is("g by q", v.tried(1, 2), 6);
        Due.is("days", v.days(3), 3);
        Due.is("purse", v.count(5), 16);
        // Only what is asked is given for.
        Due.law(v, "g5(1=1)");
        Due.is("nothing asked", v.days(3), 0);
        Due.is("purse", v.count(5), 16);
    }

    private static void letters() {
        // Of the question c with the answer 3, just behind it: the first day, the seed 1.
        Due.is("q", number("q"), 2);
        Due.is("a", number("a"), 3);
        Due.is("l", number("l"), 2);
        Due.is("p", number("p"), 1);
        Due.is("b", number("b"), 99);
        Due.is("b less 90", number("b-90"), 9);
        Due.is("n", number("n"), 1);
        Due.is("s", number("s"), 3);
        Due.is("t", number("t"), 0);
        Due.is("w", number("w"), 2);
        AskedValley v = Due.of(EVERY);
        Due.is("a ahead", first(v, "e1(q=a)"), 0);
        Due.is("l ahead", first(v, "e1(q=l-5)"), 3);
        Due.is("b ahead", first(v, "e1(b=999&q=6)"), 6);
        v.price(5, 9);
        Due.is("p", first(v, "e1(p=9)"), 5);
        Due.is("n ahead", first(v, "e1(q=n+1)"), 1);
        Due.is("t ahead", first(v, "e1(q=t+4)"), 4);
        Due.census(v, "5(8a)");
        Due.census(v, "5(8a)");
        Due.census(v, "5(5a)");
        Due.is("n modulo 100", first(v, "e1(q=n)"), 5);
        Due.is("s modulo 100", first(v, "e1(q=s)"), 5);
        Due.is("a", first(v, "e1(q=a)"), 1);
        Due.is("l", first(v, "e1(q=l)"), 0);
        Due.law(v, "e0(1=1)");
        v.days(100);
        v.days(3);
        Due.is("t modulo 100", first(v, "e1(q=t)"), 3);
        Due.law(v, "e2(q=l+1);e1(q=0)");
        Due.is("by turns", v.days(5), 5);
        Due.is("l", v.count(4), 5);
        Due.law(v, "e1(q=2);g[t](1=1)");
        v.purse(50);
        Due.is("t of a gift is that of its day", v.tried(1, 2), 57);
    }

    private static void dividedByNothing() {
        Due.is("1/0", holds("1/0=0"), false);
        Due.is("!1/0", holds("!1/0=0"), false);
        Due.is("1%0", holds("!1%0=0"), false);
        Due.is("0/0", holds("0/0=0"), false);
        Due.is("0%0", holds("0%0=0"), false);
        Due.is("the whole", holds("1=1&1/0=0|1=1"), false);
        Due.is("the whole", holds("!(!(1/0=1))|1=1"), false);
        Due.is("in brackets", holds("1=1+0*[1/[1-1]]"), false);
        Due.is("e of it", number("5+1/0"), 0);
        Due.is("e of it", number("5%0+5"), 0);
        // The first rule whose test holds gives 0: the second is not asked.
        AskedValley v = Due.of(EVERY);
        Due.is("e", first(v, "e1/0(q=0);e5(q<2)"), 1);
        Due.is("e", first(v, "e5(1/q=1);e4(1=1)"), 1);
        Due.is("e", first(v, "e5(1/q=9);e4(1=1)"), 0);
    }

    private static void asMuchAsMatters() {
        Due.is("|", holds("1=1|1/0=0"), true);
        Due.is("&", holds("1=2&1/0=0|1=1"), true);
        Due.is("& behind |", holds("1=1|1=1&1/0=0"), true);
        Due.is("| behind &", holds("1=2&1=1|1=2"), false);
        Due.is("in ()", holds("(1=1|1/0=0)&(1=1|1/0=0)"), true);
        Due.is("in ()", holds("!(1=2&1/0=0)"), true);
        Due.is("in ()", holds("(1=2|1=1)&1/0=0"), false);
        Due.is("many", holds("1=2|1=3|1=4|1=1|1/0=1"), true);
        Due.is("many", holds("1=1&2=2&3=4&1/0=1|5=5"), true);
        Due.is("many", holds("1=1&2=2&3=4&1/0=1|5=6"), false);
        Due.is("both sides", holds("1=1|2=2&3=4"), true);
        Due.is("& binds more than |", holds("(1=1|2=2)&3=4"), false);
        Due.is("! binds most", holds("!1=2&1=2"), false);
        Due.is("! binds most", holds("!1=1|1=1"), true);
        Due.is("!!", holds("!!1=1"), true);
        Due.is("!!!", holds("!!!1=1"), false);
    }

    private static void reckoning() {
        Due.is("from the left", number("9-3-2"), 4);
        Due.is("from the left", number("24/4/3"), 2);
        Due.is("from the left", number("24/4*3"), 18);
        Due.is("from the left", number("7*5%4"), 3);
        Due.is("from the left", number("17%5*7"), 14);
        Due.is("* ahead of +", number("2+3*4"), 14);
        Due.is("* ahead of +", number("2*3+4*5-6/2"), 23);
        Due.is("brackets", number("[2+3]*4"), 20);
        Due.is("brackets", number("40-[10-[3-1]]"), 32);
        Due.is("towards 0", number("50+[0-7]/2"), 47);
        Due.is("rest as the machine", number("50+[0-7]%4"), 47);
        Due.is("rest as the machine", number("7%[0-4]"), 3);
        Due.is("leading noughts", number("00012"), 12);
        // 65536 * 32768 is the least number that there is.
        Due.is("32 bits", holds("65536*32768<0"), true);
        Due.is("32 bits", holds("65536*65536=0"), true);
        Due.is("32 bits", holds("65536*32768-1>0"), true);
        Due.is("32 bits", holds("65536*32768/[0-1]=65536*32768"), true);
        Due.is("32 bits", holds("65536*32768%[0-1]=0"), true);
        Due.is("32 bits", holds("99999*99999=14098*99999+65409+14098"), true);
        Due.is("<", holds("1<2"), true);
        Due.is("<", holds("2<2"), false);
        Due.is(">", holds("2>1"), true);
        Due.is(">", holds("2>2"), false);
        Due.is("=", holds("2=2"), true);
        Due.is("=", holds("2=3"), false);
        Due.is("both sides", holds("1+2*3=9-2"), true);
    }

    private static void nesting() {
        Due.is("deep", number("1+2*[3+4*[5-6*[7-8*[9-10*[11-12*[13-14]]]]]]"), 0);
        Due.is("deep", number("[[[[[[5]]]]]]"), 5);
        Due.is("deep", number("60+[1+[2*[3-[4-[5*[6-7]]]]]]"), 49);
        AskedValley v = Due.of(EVERY);
        Due.is("deep", first(v, "e1((((((q=3))))))"), 3);
        Due.is("deep", first(v, "e1(!!!!!q=3)"), 0);
        Due.is("deep", first(v, "e1(!(!(q=3|q=4)|q=3)&!q=5)"), 4);
    }

    private static void prices() {
        AskedValley v = Due.of(EVERY);
        Due.law(v, "e9-q(1=1)");
        v.purse(0);
        Due.is("too dear", v.tried(1, 0), 0);
        v.price(4, 0);
        Due.is("for nothing", v.tried(1, 5), 4);
        v.price(3, 10);
        v.purse(10);
        for (int q = 0; q < 3; q++) {
            v.price(q, 11);
        }
        Due.is("just so dear", v.tried(1, 5), 3);
        Due.is("all is paid", v.tried(1, 2), 0);
        Due.is("then the next", v.tried(2, 5), 4);
        Due.is("asked", v.tried(2, 0), 2);
        Due.is("answers", v.tried(2, 1), 9);
    }

    private static void lastDays() {
        AskedValley v = Due.of(EVERY);
        Due.law(v, "e1(q=2);g1(1=1)");
        for (int i = 0; i < 99; i++) {
            v.days(100);
        }
        Due.is("the day", v.count(0), 9900);
        v.days(50);
        Due.is("tried as many as can", v.tried(100, 0), 49);
        Due.is("tried as many as can", v.tried(100, 1), 147);
        Due.is("as many as can", v.days(100), 49);
        Due.is("the day", v.count(0), 9999);
        String before = Due.all(v);
        Due.is("none goes by", v.days(1), 0);
        Due.is("none goes by", v.tried(1, 0), 0);
        Due.same("none goes by, nothing is drawn", before, Due.all(v));
    }

    private static void trying() {
        AskedValley v = Due.of("3;a:0>1=1,1>2=2,2>0=3;b:*>0=4");
        Due.law(v, "e3(q=w%2);g2(a=3)");
        Due.census(v, "a");
        v.seed(77);
        String before = Due.all(v);
        int[] due = new int[6];
        for (int what = 0; what < 6; what++) {
            due[what] = v.tried(100, what);
        }
        Due.same("tried", before, Due.all(v));
        int sum = v.count(7);
        Due.is("questions", v.days(100), due[0]);
        Due.is("answers", v.count(7) - sum, due[1]);
        Due.is("purse", v.count(5), due[2]);
        Due.is("state", v.count(2), due[3]);
        Due.is("last answer", v.count(3), due[4]);
        Due.is("last question", v.count(4), due[5]);
    }

    private static void keeping() {
        AskedValley v = Due.of("10;a:0>9=6");
        Due.is("undo", v.undo(), false);
        Due.law(v, "e3(1=1)");
        v.days(4);
        Due.census(v, "b");
        v.purse(77);
        String before = Due.all(v);
        Due.is("keep", v.keep(), 4);
        v.days(3);
        v.price(0, 50);
        v.state(3);
        v.seed(5);
        Due.census(v, "9b");
        Due.is("undo", v.undo(), true);
        Due.same("undone", before, Due.all(v));
        Due.is("prices stay", v.cheapest(0, 9), 50);
        v.days(1);
        Due.is("undo again", v.undo(), true);
        Due.same("undone", before, Due.all(v));
        Due.is("the state", v.count(2), 9);
        // The valley is not kept: a state that there is no more becomes 0.
        Due.valley(v, "9");
        v.state(4);
        Due.is("undo", v.undo(), true);
        Due.is("no such state", v.count(2), 0);
        Due.is("the others", v.count(4), 1);
        Due.is("the others", v.count(5), 77);
        Due.is("states", v.count(1), 9);
        Due.valley(v, "10");
        v.undo();
        Due.is("there it is", v.count(2), 9);
        Due.feed(v, "abc");
        Due.law(v, "x(1=1);x(1=1)");
        Due.is("the law is not kept", v.undo(), true);
        Due.is("tape", v.count(9), 0);
        Due.feed(v, "abc");
        v.undo();
        Due.is("the tape is not kept", v.count(9), 20);
        AskedValley early = new AskedValley();
        Due.is("kept without a valley", early.keep(), 0);
        Due.valley(early, "3");
        early.state(2);
        early.undo();
        Due.is("state", early.count(2), 0);
    }
}
