/** Days and draws, as the terms tell them: each bound, and what stays. */
final class DayBounds {
    private static final String EVERY = "10;a:*>.=1;b:*>.=2;c:*>.=3;d:*>.=4;e:*>.=5;f:*>.=6;g:*>.=7;h:*>.=8";
    private static final int NONE_ASKED = 8;

    private DayBounds() {
    }

    static void run() {
        withDraw();
        dear();
        likedMost();
        changes();
        given();
        lastDay();
        withoutValley();
        draws();
    }

    private static AskedValley with(String law) {
        AskedValley v = Due.of(EVERY);
        Due.is("law " + law, Due.law(v, law) > 0, true);
        return v;
    }

    private static void withDraw() {
        Sentence.of("Terms", "A DAY, with a DRAW");
        // One draw a day, the same for all questions and for what is given, whether one is asked or not.
        AskedValley v = with("e9-q(q=w|q=w-5);g[w](1=1)");
        int x = 1;
        int purse = 999;
        for (int day = 1; day <= 40; day++) {
            x = (25173 * x + 13849) % 65536;
            int w = x % 10;
            int q = w >= 5 ? w - 5 : w;
            purse += w - 1;
            Due.is("one question", v.days(1), 1);
            Due.is("by the draw", v.count(4), q);
            Due.is("given by the same draw", v.count(5), purse);
            Due.is("X", v.count(10), x);
        }
        v = with("e1(w=3)");
        for (int day = 1; day <= 40; day++) {
            int asked = v.days(1);
            Due.is("asked by the draw", asked, v.count(10) % 10 == 3 ? 1 : 0);
        }
    }

    private static void dear() {
        Sentence.of("Terms", "of the QUESTIONS that are not refused and whose PRICE is no more than THE PURSE");
        AskedValley v = with("e9-q(1=1);x(q=2)");
        int[] price = {11, 10, 0, 9, 1, 0, 99, 99};
        for (int q = 0; q < 8; q++) {
            v.price(q, price[q]);
        }
        int[] purse = {11, 10, 9, 8, 1, 0};
        int[] due = {0, 1, 3, 4, 4, 5};
        for (int i = 0; i < purse.length; i++) {
            v.purse(purse[i]);
            Due.is("with a purse of " + purse[i], v.tried(1, 5), due[i]);
            Due.is("what is left of " + purse[i], v.tried(1, 2), purse[i] - price[due[i]]);
        }
        v.price(5, 1);
        Due.is("all too dear", v.tried(1, 5), NONE_ASKED);
        Due.is("all too dear", v.days(100), 0);
        Due.is("nothing was paid", v.count(5), 0);
        v.purse(9999);
        Due.law(v, "e1(q=2);x(q=2)");
        Due.is("it is refused, though it costs nothing", v.tried(1, 5), NONE_ASKED);
    }

    private static void likedMost() {
        Sentence.of("Terms", "the inspector asks the one he likes most (e above 0; of like ones the lowest)");
        Due.is("0 is not above 0", with("e0(1=1)").tried(1, 5), NONE_ASKED);
        Due.is("below 0", with("e0-1(1=1)").tried(1, 5), NONE_ASKED);
        Due.is("1 is", with("e1(q=7)").tried(1, 5), 7);
        Due.is("the most", with("e1+q(1=1)").tried(1, 5), 7);
        Due.is("the most", with("e8-q(1=1)").tried(1, 5), 0);
        Due.is("of like ones the lowest", with("e1(1=1)").tried(1, 5), 0);
        Due.is("of like ones the lowest", with("e2(q>3);e1(1=1)").tried(1, 5), 4);
        Due.is("of like ones the lowest", with("e9999(q=6);e10000(q=5);e1(1=1)").tried(1, 5), 5);
        Due.is("the lowest that is not refused", with("e1(1=1);x(q<3)").tried(1, 5), 3);
    }

    private static void changes() {
        Sentence.of("Terms", "THE PURSE is less by its PRICE, ASKED one more, SUM more by the ANSWER, THE LAST ANSWER and QUESTION are these, "
                + "THE STATE is the one behind it");
        AskedValley v = Due.of("3;c:0>2=9,2>1=0");
        v.price(2, 99);
        Due.law(v, "e1(q=2)");
        Due.is("a day", v.days(1), 1);
        Due.same("a day", "1 3 2 9 2 900 1 9 1 0 39022 ", Due.all(v));
        v.purse(99);
        Due.is("a day", v.days(1), 1);
        Due.same("a day", "2 3 1 0 2 0 2 9 1 0 61087 ", Due.all(v));
        Due.is("a day without money", v.days(1), 0);
        Due.same("a day without money", "3 3 1 0 2 0 2 9 1 0 20196 ", Due.all(v));
    }

    private static void given() {
        Sentence.of("Terms", "then THE PURSE is more by g (9999 at most; asked then, all as it is then, w the same)");
        AskedValley v = with("e1(q=2);g99(1=1)");
        v.price(2, 3);
        int[] purse = {9902, 9903, 9904, 9999, 3};
        int[] due = {9998, 9999, 9999, 9999, 99};
        for (int i = 0; i < purse.length; i++) {
            v.purse(purse[i]);
            Due.is("given to " + purse[i], v.tried(1, 2), due[i]);
        }
        // All as it is then: the purse without the price, asked and sum with it, the day that is not over.
        v.purse(50);
        Due.census(v, "9a");
        v.days(4);
        Due.same("ahead of it", "4 10 0 3 2 434 13 21 2 0 45005 ", Due.all(v));
        Due.law(v, "e1(q=6);g50(q=6&a=7&l=6&p=1&b=433&n=14&s=28&t=4&w=2)");
        Due.is("all as it is then", v.tried(1, 2), 483);
        Due.is("asked then, not of the others", with("e1(q=2);g[q-2]*9+5(1=1)").tried(1, 2), 999 - 1 + 5);
        Due.is("nothing is given if nothing is asked", with("e0(1=1);g9(1=1)").tried(1, 2), 999);
    }

    private static AskedValley atDay(int day) {
        AskedValley v = with("e1(q=2);g1(1=1)");
        for (int i = 0; i < day / 100; i++) {
            v.days(100);
        }
        if (day % 100 > 0) {
            v.days(day % 100);
        }
        Due.is("the day", v.count(0), day);
        return v;
    }

    private static void lastDay() {
        Sentence.of("Terms", "THE DAY is one more (9999 at most: then none goes by)");
        AskedValley v = atDay(9998);
        Due.is("one can be tried", v.tried(100, 0), 1);
        Due.is("one can", v.days(2), 1);
        Due.is("the day", v.count(0), 9999);
        String before = Due.all(v);
        Due.is("none goes by", v.days(1), 0);
        Due.is("none goes by", v.days(100), 0);
        Due.same("nothing is drawn, nothing changes", before, Due.all(v));
        int[] due = {0, 0, v.count(5), v.count(2), v.count(3), v.count(4)};
        for (int what = 0; what < due.length; what++) {
            Due.is("tried then", v.tried(100, what), due[what]);
        }
        Due.is("kept then", v.keep(), 9999);
        Due.is("the first day", atDay(1).count(6), 1);
    }

    private static void withoutValley() {
        Sentence.of("Terms", "(Without a VALLEY nothing is asked; the DRAW is all the same.)");
        AskedValley v = new AskedValley();
        Due.law(v, "e1(1=1);g9(1=1)");
        Due.is("tried", v.tried(3, 0), 0);
        Due.is("a day", v.days(1), 0);
        Due.same("a day", "1 0 0 0 8 999 0 0 2 0 39022 ", Due.all(v));
        Due.is("two days", v.days(2), 0);
        Due.same("two days", "3 0 0 0 8 999 0 0 2 0 20196 ", Due.all(v));
        Due.valley(v, "2;a:0>1=6");
        Due.is("a day with one", v.days(1), 1);
        Due.same("a day with one", "4 2 1 6 0 1007 1 6 2 0 45005 ", Due.all(v));
    }

    private static void draws() {
        Sentence.of("Terms", "DRAWS: X = (25173 X + 13849) modulo 65536 (X is THE SEED at first, 1): X modulo 10.");
        Due.is("X at first", new AskedValley().count(10), 1);
        int[] seed = {1, 0, 65535, 65534, 32768, 2, 39022};
        int[] x = {39022, 13849, 54212, 29039, 46617, 64195, 61087};
        for (int i = 0; i < seed.length; i++) {
            AskedValley v = with("e1(q=2);g[w](1=1)");
            Due.is("seed", v.seed(seed[i]), true);
            Due.is("X", v.count(10), seed[i]);
            Due.is("the draw behind " + seed[i], v.tried(1, 2) - 998, x[i] % 10);
            Due.is("a day", v.days(1), 1);
            Due.is("X behind " + seed[i], v.count(10), x[i]);
            Due.is("the draw behind " + seed[i], v.count(5) - 998, x[i] % 10);
        }
        // X modulo 10 is 0 to 9, each of them at times.
        AskedValley v = new AskedValley();
        long due = 1;
        int seen = 0;
        for (int i = 0; i < 60; i++) {
            v.days(1);
            due = (25173 * due + 13849) % 65536;
            seen |= 1 << due % 10;
            Due.is("X", v.count(10), due);
        }
        Due.is("draws 0 to 9", seen, 1023);
    }
}
