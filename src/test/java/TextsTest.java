/** Promises 1 to 8: the tape, and the texts of a valley, a census and a law with their faults. */
public final class TextsTest {
    public static void main(String[] args) {
        newObject();
        settings();
        tape();
        lengths();
        valleys();
        valleyFaults();
        valleyStands();
        censuses();
        censusFaults();
        laws();
        lawFaults();
        Due.end();
    }

    private static void newObject() {
        AskedValley v = new AskedValley();
        Due.same("new", "0 0 0 0 8 999 0 0 0 0 1 ", Due.all(v));
        Due.is("NONE", AskedValley.NONE, -1);
        Due.is("undo", v.undo(), false);
    }

    private static void settings() {
        AskedValley v = new AskedValley();
        Due.is("state without a valley", v.state(0), false);
        Due.is("price least", v.price(0, 0), true);
        Due.is("price most", v.price(7, 99), true);
        Due.is("price beyond", v.price(0, 100), false);
        Due.is("price below", v.price(0, -1), false);
        Due.is("price of 8", v.price(8, 1), false);
        Due.is("price of -1", v.price(-1, 1), false);
        Due.is("purse least", v.purse(0), true);
        Due.is("purse then", v.count(5), 0);
        Due.is("purse most", v.purse(9999), true);
        Due.is("purse beyond", v.purse(10000), false);
        Due.is("purse below", v.purse(-1), false);
        Due.is("purse then", v.count(5), 9999);
        Due.valley(v, "3;a:*>1=7");
        Due.census(v, "a");
        Due.is("state", v.state(2), true);
        Due.is("state then", v.count(2), 2);
        Due.is("last answer then", v.count(3), 7);
        Due.is("last question then", v.count(4), 0);
        Due.is("state beyond", v.state(3), false);
        Due.is("state below", v.state(-1), false);
        Due.is("state then", v.count(2), 2);
        Due.is("seed least", v.seed(0), true);
        Due.is("X", v.count(10), 0);
        Due.is("seed most", v.seed(65535), true);
        Due.is("X", v.count(10), 65535);
        Due.is("seed beyond", v.seed(65536), false);
        Due.is("seed below", v.seed(-1), false);
        Due.is("X", v.count(10), 65535);
    }

    private static void tape() {
        AskedValley v = new AskedValley();
        for (int i = 1; i <= 13; i++) {
            Due.is("feed", v.feed(0, 0, 0, 0, i), 20 * i);
        }
        Due.is("feed beyond 260", v.feed(0, 0, 0, 0, 0), -1);
        Due.is("bytes", v.count(9), 260);
        Due.is("check empties", v.check(0, 0), -1);
        Due.is("bytes", v.count(9), 0);
        // The highest byte of each int first, and bytes without a sign.
        v.feed(0x01020384, 0x05060708, 0x090affff, 0, 0);
        Due.is("check", v.check(0, 1), 0);
        v.feed(-1, 0xffffff84, 0xffffffff, 0, 0);
        Due.is("check", v.check(0, 10), 7);
        v.feed(-1, 0xffff84ff, 0xffffffff, 0, 0);
        Due.is("check", v.check(0, 10), 6);
        v.feed(-1, -1, -1, -1, -1);
        Due.is("check", v.check(0, 10), -1);
    }

    private static void lengths() {
        AskedValley v = new AskedValley();
        for (int i = 0; i < 13; i++) {
            Due.feed(v, "4aaaaaaaaaaaaaaaaaaa");
        }
        int[] no = {0, -1, 241, 260, 261, Integer.MAX_VALUE, Integer.MIN_VALUE};
        for (int n : no) {
            Due.is("law " + n, v.law(n), -1);
            Due.is("valley " + n, v.valley(n), -1);
            Due.is("census " + n, v.census(n), -1);
        }
        Due.is("valley 221", v.valley(221), -1);
        Due.is("bytes", v.count(9), 260);
        Due.is("valley 1", v.valley(1), 4);
        Due.is("bytes", v.count(9), 0);
        Due.is("census of nothing", v.census(1), -1);
        Due.is("look of nothing", v.look(1, 100), -1);
        Due.is("law of nothing", v.law(1), -1);
        Due.is("valley of nothing", v.valley(1), -1);
        Due.feed(v, "aaaaaaaaaaaaaaaaaaaa");
        Due.is("too few", v.census(21), -1);
        Due.is("too few", v.look(21, 100), -1);
        Due.is("too few", v.law(21), -1);
        Due.is("too few", v.valley(21), -1);
        Due.is("bytes", v.count(9), 20);
        Due.is("all of it", v.census(20), 0);
        Due.is("asked", v.count(6), 20);
        for (int i = 0; i < 4; i++) {
            Due.feed(v, "aaaaaaaaaaaaaaaaaaaa");
        }
        Due.is("census 61", v.census(61), -1);
        Due.is("look 61", v.look(61, 100), -1);
        Due.is("bytes", v.count(9), 80);
        Due.is("census 60", v.census(60), -6040);
        Due.is("bytes", v.count(9), 0);
        longTexts();
    }

    private static void longTexts() {
        AskedValley v = new AskedValley();
        StringBuilder text = new StringBuilder("05");
        for (char q = 'a'; q <= 'f'; q++) {
            text.append(';').append(q).append(":0>0=0,1>1=1,2>2=2,3>3=3,*>4=4");
        }
        text.append(";g:0>1=1,1>1=1,2>1=2,*>1=7");
        Due.is("length", text.length(), 220);
        Due.feed(v, text + ";");
        Due.is("valley 221", v.valley(221), -1);
        Due.is("valley 219", v.valley(219), -1219);
        Due.is("valley of 220", Due.valley(v, text.toString()), 5);
        Due.is("its last answer", v.askedAt(6, 4, 0), 7);
        StringBuilder number = new StringBuilder("x(1=");
        while (number.length() < 237) {
            number.append("1+");
        }
        number.setLength(238);
        number.append("1)");
        Due.is("law of 240", number.length(), 240);
        Due.is("law of 240", Due.law(v, number.toString()), 1);
        Due.feed(v, number.append("x").toString());
        Due.is("law 241", v.law(241), -1);
        Due.is("law 240", v.law(240), 1);
        Due.is("census of 60", Due.look(v, "((a)(a)(a)(a)(a)(a)(a)(a)(a)(a)(a)(a)(a)(a)(a)(a)(a)(a)(a)a)", 103), 20);
    }

    private static void valleys() {
        AskedValley v = Due.of("10;h:9>0=9,0>9=8,*>.=1;a:*>5=2");
        for (int s = 0; s < 10; s++) {
            int answer = s == 9 ? 9 : s == 0 ? 8 : 1;
            int behind = s == 9 ? 0 : s == 0 ? 9 : s;
            Due.is("h answers", v.askedAt(7, s, 0), answer);
            Due.is("h leaves", v.askedAt(7, s, 1), behind);
            Due.is("a answers", v.askedAt(0, s, 0), 2);
            Due.is("a leaves", v.askedAt(0, s, 1), 5);
            Due.is("b answers", v.askedAt(1, s, 0), 0);
            Due.is("b leaves", v.askedAt(1, s, 1), s);
        }
        Due.is("states", v.count(1), 10);
        // A star may find no state left.
        v = Due.of("2;a:1>0=1,0>1=2,*>0=9");
        Due.is("a answers", v.askedAt(0, 0, 0), 2);
        Due.is("a answers", v.askedAt(0, 1, 0), 1);
        Due.is("two digits", Due.valley(v, "02"), 2);
        Due.is("two digits", Due.valley(v, "09;a:8>8=8"), 9);
        Due.is("what is not told", v.askedAt(0, 0, 0), 0);
        Due.is("eight lines", Due.valley(v, "2;a:*>.=1;b:*>.=1;c:*>.=1;d:*>.=1;e:*>.=1;f:*>.=1;g:*>.=1;h:*>.=1"), 2);
        Due.is("askedAt of 8", v.askedAt(8, 0, 0), -1);
        Due.is("askedAt of -1", v.askedAt(-1, 0, 0), -1);
        Due.is("askedAt at 2", v.askedAt(0, 2, 0), -1);
        Due.is("askedAt at -1", v.askedAt(0, -1, 0), -1);
        Due.is("askedAt what 2", v.askedAt(0, 0, 2), -1);
        Due.is("askedAt what -1", v.askedAt(0, 0, -1), -1);
        Due.is("askedAt without a valley", new AskedValley().askedAt(0, 0, 0), -1);
    }

    private static void valleyFault(String text, int due) {
        AskedValley v = Due.of("3;a:*>1=4");
        v.state(2);
        String before = Due.all(v);
        Due.is("valley " + text, Due.valley(v, text), due);
        Due.same("valley " + text, before, Due.all(v));
        Due.is("valley " + text + ": the one before", v.askedAt(0, 2, 0), 4);
    }

    private static void valleyFaults() {
        String[] texts = {"x", ";", "1", "0", "00", "01", "11", "99", "1x", "11x", "100", "001", "019", "2x", "2,", "2 ",
            "10;", "2;i", "2;A", "2;`", "2;a", "2;a;", "2;a:", "2;a:,", "2;a:2", "2;a:9x", "2;a:0", "2;a:0=", "2;a:0>",
            "2;a:0>2", "2;a:0>*", "2;a:0>1", "2;a:0>1>", "2;a:0>1=", "2;a:0>1=x", "2;a:0>1=12", "2;a:0>1=1,",
            "2;a:0>1=1,0", "2;a:*>1=1,1", "2;a:*>1=1,*", "2;a:*>1=1,2", "2;a:*>1=1,x", "2;a:0>.=1;a", "2;a:0>.=1;a:0",
            "2;a:0>.=1;;", "2;a:0>.=1,1>.=1,0>", "2;a:0>.=1,1>.=1,2>", "2;a:0>.=1,1>.=1,*>.=0,*>.=0",
            "2;a:*>.=1;b:*>.=1;c:*>.=1;d:*>.=1;e:*>.=1;f:*>.=1;g:*>.=1;h:*>.=1;a",
            "2;a:*>.=1;b:*>.=1;c:*>.=1;d:*>.=1;e:*>.=1;f:*>.=1;g:*>.=1;h:*>.=1;i",
            "2;a:.>1=1", "2;a:0>..", "\u00ff", "2;a:0>1=1\u00b5", "9;a:0>9", "10;a:9>9=0;b:a"};
        int[] due = {-1000, -1000, -3000, -3000, -3000, -3000, -3000, -3000, -3000, -3000, -2002, -2002, -2002, -1001,
            -1001, -1001, -1003, -1002, -1002, -1002, -1003, -1003, -1004, -1004, -3004, -3004, -1005, -1005, -1006,
            -3006, -1006, -1007, -1007, -1008, -1008, -1009, -1010, -7010, -7010, -7010, -3010, -1010, -6010, -6010,
            -1010, -7016, -3016, -7022, -6066, -1066, -1004, -1007, -1000, -1009, -3006, -1013};
        for (int i = 0; i < texts.length; i++) {
            valleyFault(texts[i], due[i]);
        }
        Due.is("texts", texts.length, due.length);
    }

    private static void valleyStands() {
        AskedValley v = Due.of("3;a:*>2=4");
        Due.census(v, "3a");
        v.purse(50);
        v.price(0, 7);
        v.days(2);
        Due.law(v, "e1(1=1)");
        Due.is("another valley", Due.valley(v, "4;a:0>1=0"), 4);
        Due.same("another valley", "2 4 0 0 8 50 3 12 1 0 61087 ", Due.all(v));
        Due.is("prices stay", v.cheapest(0, 1), 7);
        Due.valley(v, "2;a:0>1=0");
        Due.is("prices stay", v.cheapest(0, 1), 7);
    }

    private static void censuses() {
        AskedValley v = Due.of("4;a:0>1=1,1>2=2,2>3=3,3>0=4;b:*>0=9");
        Due.is("census", Due.census(v, "a"), 1);
        Due.same("census", "0 4 1 1 0 999 1 1 0 0 1 ", Due.all(v));
        Due.is("census", Due.census(v, "2(ab)a"), 1);
        Due.same("census", "0 4 1 1 0 999 6 23 0 0 1 ", Due.all(v));
        Due.is("census", Due.census(v, "(2(2a)b)"), 9);
        Due.same("census", "0 4 0 9 1 999 11 42 0 0 1 ", Due.all(v));
        Due.is("a question that is not told", Due.census(v, "h"), 0);
        Due.same("census", "0 4 0 0 7 999 12 42 0 0 1 ", Due.all(v));
        // Bounds of asked and sum.
        v = Due.of("2;a:*>1=9");
        for (int i = 0; i < 250; i++) {
            Due.feed(v, "5(8a)");
            v.census(5);
        }
        Due.is("asked most", v.count(6), 9999);
        Due.is("sum", v.count(7), 90000);
        v = Due.of("2;a:*>1=9");
        Due.law(v, "e1(q=0);g1(1=1)");
        for (int i = 0; i < 99; i++) {
            v.days(100);
        }
        for (int i = 0; i < 28; i++) {
            Due.census(v, "5(8a)");
        }
        Due.is("sum", v.count(7), 99180);
        Due.is("two more", Due.census(v, "5(8a)"), 9);
        Due.is("sum", v.count(7), 99540);
        Due.census(v, "5(8a)");
        Due.is("sum", v.count(7), 99900);
        Due.census(v, "9a2a");
        Due.is("sum", v.count(7), 99999);
        Due.census(v, "a");
        Due.is("sum most", v.count(7), 99999);
        Due.is("asked most", v.count(6), 9999);
    }

    private static void censusFaults() {
        String[] texts = {"i", "A", " ", "0a", "1a", "2", "22a", "9)", "()", ")", "(", "(a", "((a)", "a)", "(a))", "((a)a",
            "(((", "((2(", "(a(b(", "((a)(b)(", "((a)(b))(", "2(a)x", "5(9a)", "9a9a9a9a5a", "9a9a9a9a4ab", "9a9a9a9a(5a)",
            "(9a9a9a9a9a)", "9(5(a))", "9((5a))", "2(9a9a9a)", "9a2(9a9a)", "2((9a9a)9a)", "9a9a9a9a2(3a)", "41",
            "9(9(9a))", "5(8a)a", "5(8a)(a)", "5(8a)2(", "5(8a)i", "\u00e1"};
        int[] due = {-1000, -1000, -1000, -1000, -1000, -1001, -1001, -1001, -1001, -1000, -1001, -1002, -1004, -1001, -1003,
            -1005, -5002, -5003, -5004, -1008, -1009, -1004, -6000, -6008, -6010, -6009,
            -6009, -6000, -6000, -6000, -6002, -6000, -6008, -1001,
            -6002, -6005, -6006, -1007, -1005, -1000};
        Due.is("texts", texts.length, due.length);
        for (int i = 0; i < texts.length; i++) {
            AskedValley v = Due.of("3;a:*>1=4");
            v.state(2);
            String before = Due.all(v);
            Due.is("census " + texts[i], Due.census(v, texts[i]), due[i]);
            Due.same("census " + texts[i], before, Due.all(v));
            Due.is("look " + texts[i], Due.look(v, texts[i], 100), due[i]);
            Due.same("look " + texts[i], before, Due.all(v));
        }
        AskedValley none = new AskedValley();
        Due.feed(none, "i");
        Due.is("census without a valley", none.census(1), -1);
        Due.is("look without a valley", none.look(1, 100), -1);
        Due.is("bytes", none.count(9), 20);
    }

    private static void laws() {
        AskedValley v = new AskedValley();
        Due.is("law", Due.law(v, "e[q+1]*2-a/l%p(q<a|q>l&!(b=n|s=t)&w>00000)"), 1);
        Due.is("rules", v.count(8), 1);
        Due.is("law", Due.law(v, "x(!!!!!q=0);g99999(0=0)"), 2);
        Due.is("rules", v.count(8), 2);
        StringBuilder text = new StringBuilder("x(q=0)");
        for (int i = 2; i <= 16; i++) {
            text.append(";x(q=0)");
        }
        Due.is("16 rules", Due.law(v, text.toString()), 16);
        Due.is("17 rules", Due.law(v, text + ";g1(q=0)"), -4112);
        Due.is("17 rules", Due.law(v, text + ";x"), -4112);
        Due.is("17 rules", Due.law(v, text + ";y"), -1112);
        Due.is("17 rules", Due.law(v, text + ";"), -1112);
        Due.is("rules", v.count(8), 16);
        Due.is("six open", Due.law(v, "e[[[[[[1]]]]]](!(!(!([1]=1))))"), -5020);
        Due.is("six open", Due.law(v, "e[[[[[[1]]]]]](!(!(!1=1)))"), 1);
        Due.is("a ! ends with its test", Due.law(v, "x(!1=1&!1=1&!1=1&!1=1&!1=1&!1=1&!1=1|!(!(!2=[2])))"), -5044);
        Due.is("a ! ends with its test", Due.law(v, "x(!1=1&!1=1&!1=1&!1=1&!1=1&!1=1&!1=1|!(!(2=[2])))"), 1);
    }

    private static void lawFaults() {
        String[] texts = {"z", ";", "E", "(", "x", "xx", "x1", "x()", "x(", "x(q", "x(q)", "x(q=", "x(q=)", "x(q=0", "x(q==0)",
            "x(q=0))", "x(q=0);", "x(q=0);;", "x(q=0)x", "e(", "e1", "e1+", "e1+(", "e-1", "e1)", "e[", "e[1", "e[1)", "e[]",
            "e1]", "e[1]]", "e12345", "e123456", "e000000", "e1(1=123456", "e1(1=12345+1234567", "e!1", "e1(!)", "e1(!", "e1(&",
            "e1(1=1&)", "e1(1=1|)", "e1(1=1&|", "e1((1=1)", "e1((1)=1)", "e1(1=1=1)", "e1(c=1)", "e1(e=1)", "e1(g=1)", "e1(x=1)",
            "x(((((((", "x((((((1=1", "x(((((([", "x(((((1=[[", "x(!!!!!!", "x(!!!!![", "x(!!!!!1=[", "x([[[[[[", "x([[[[[1+[",
            "e[[[[[[[", "e[[[[[[1]]]]]]+[[[[[[[", "x((((((1=1))))))(", "g1(1=1);e", "q1(1=1)", "x(1<<1)", "x(1=1&1=1", "x(1=1&&",
            "e1 (1=1)", "\u00e5", "x(\u00ff", "x(]", "e1(1=1]", "e*", "e1**", "e1/%", "e1*+", "x(1", "x(+"};
        int[] due = {-1000, -1000, -1000, -1000, -1001, -1001, -1001, -1002, -1002, -1003, -1003, -1004, -1004, -1005, -1004,
            -1006, -1007, -1007, -1006, -1001, -1002, -1003, -1003, -1001, -1002, -1002, -1003, -1003, -1002,
            -1002, -1004, -1006, -2006, -2006, -2010, -2016, -1001, -1004, -1004, -1003,
            -1007, -1007, -1007, -1008, -1005, -1006, -1003, -1003, -1003, -1003,
            -5007, -1010, -5007, -5009, -5007, -5007, -5009, -5007, -5009,
            -5007, -5021, -1016, -1009, -1000, -1004, -1009, -1006,
            -1002, -1000, -1002, -1002, -1006, -1001, -1003, -1003, -1003, -1003, -1002};
        Due.is("texts", texts.length, due.length);
        AskedValley v = new AskedValley();
        Due.law(v, "e7(1=1);x(q<3)");
        Due.valley(v, "2");
        for (int i = 0; i < texts.length; i++) {
            Due.is("law " + texts[i], Due.law(v, texts[i]), due[i]);
        }
        Due.is("bytes", v.count(9), 0);
        Due.is("rules", v.count(8), 2);
        Due.is("the one before", v.tried(1, 5), 3);
    }
}
