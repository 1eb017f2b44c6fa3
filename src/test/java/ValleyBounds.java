/** The terms ahead of the texts, and the text of a valley: each bound and each fault with its place. */
final class ValleyBounds {
    private static final String DIGITS = "0123456789";
    private static final String LETTERS = "abcdefgh";

    private ValleyBounds() {
    }

    static void run() {
        states();
        questions();
        answers();
        firsts();
        prices();
        purse();
        asked();
        sum();
        day();
        length();
        number();
        lines();
        letterAndRules();
        ruleState();
        stateBehind();
        answerDigit();
        notTold();
        signs();
        thirdDigit();
        wrongNumber();
        noSuchState();
        questionTwice();
        stateTwice();
        then();
    }

    private static void reads(String text, int due) {
        Due.is("valley " + text, Due.valley(new AskedValley(), text), due);
    }

    private static void states() {
        Sentence.of("Terms", "STATES 0 to 9 (as many as THE VALLEY has, 2 to 10; none at first)");
        AskedValley none = new AskedValley();
        Due.is("states at first", none.count(1), 0);
        Due.is("state 0 at first", none.state(0), false);
        reads("1", -3000);
        reads("11", -3000);
        for (int n = 2; n <= 10; n++) {
            AskedValley v = Due.of(String.valueOf(n));
            Due.is("states", v.count(1), n);
            Due.is("the least", v.state(0), true);
            Due.is("below it", v.state(-1), false);
            Due.is("beyond the greatest", v.state(n), false);
            Due.is("still the least", v.count(2), 0);
            Due.is("the greatest", v.state(n - 1), true);
            Due.is("now the greatest", v.count(2), n - 1);
        }
    }

    private static void questions() {
        Sentence.of("Terms", "QUESTIONS a to h (0 to 7)");
        AskedValley v = Due.of("2;a:*>.=1;h:*>.=8");
        Due.is("below a", v.askedAt(-1, 0, 0), -1);
        Due.is("a", v.askedAt(0, 0, 0), 1);
        Due.is("h", v.askedAt(7, 0, 0), 8);
        Due.is("beyond h", v.askedAt(8, 0, 0), -1);
        reads("2;`:*>.=1", -1002);
        reads("2;i:*>.=1", -1002);
    }

    private static void answers() {
        Sentence.of("Terms", "of each STATE an ANSWER (0 to 9) and the STATE behind it");
        AskedValley v = Due.of("10;a:0>0=0,1>9=9,8>0=9,9>9=0");
        int[] at = {0, 1, 8, 9};
        int[] answer = {0, 9, 9, 0};
        int[] behind = {0, 9, 0, 9};
        for (int i = 0; i < at.length; i++) {
            Due.is("answer at " + at[i], v.askedAt(0, at[i], 0), answer[i]);
            Due.is("behind " + at[i], v.askedAt(0, at[i], 1), behind[i]);
        }
        reads("2;a:0>0=/", -1008);
        reads("2;a:0>0=:", -1008);
        reads("2;a:0>0=10", -1009);
    }

    private static void firsts() {
        Sentence.of("Terms", "THE STATE (0 at first), THE LAST ANSWER (0 at first), THE LAST QUESTION (8: none, at first)");
        AskedValley v = new AskedValley();
        for (int turn = 0; turn < 2; turn++) {
            Due.is("the state", v.count(2), 0);
            Due.is("the last answer", v.count(3), 0);
            Due.is("the last question", v.count(4), 8);
            Due.valley(v, "4;a:*>3=7");
        }
    }

    private static void prices() {
        Sentence.of("Terms", "PRICES of QUESTIONS (0 to 99; 1 at first)");
        for (int q = 0; q < 8; q++) {
            AskedValley v = Due.of("2;" + LETTERS.charAt(q) + ":0>1=0");
            Due.is("at first", v.cheapest(0, 1), 1);
            Due.is("the least", v.price(q, 0), true);
            Due.is("the least", v.cheapest(0, 1), 0);
            Due.is("the greatest", v.price(q, 99), true);
            Due.is("beyond it", v.price(q, 100), false);
            Due.is("below 0", v.price(q, -1), false);
            Due.is("still the greatest", v.cheapest(0, 1), 99);
        }
    }

    private static void purse() {
        Sentence.of("Terms", "THE PURSE (0 to 9999; 999 at first)");
        AskedValley v = Due.of("2;a:*>.=1");
        Due.is("at first", v.count(5), 999);
        Due.is("the least", v.purse(0), true);
        Due.is("below it", v.purse(-1), false);
        Due.is("the least", v.count(5), 0);
        Due.is("the greatest", v.purse(9999), true);
        Due.is("beyond it", v.purse(10000), false);
        Due.is("the greatest", v.count(5), 9999);
        // It stops there, too, when more is given.
        Due.law(v, "e1(q=0);g2(1=1)");
        v.purse(9997);
        int[] due = {9998, 9999, 9999, 9999};
        for (int each : due) {
            v.days(1);
            Due.is("given", v.count(5), each);
        }
    }

    /** After 9900 days, in each of which a is asked. */
    private static AskedValley old(String valley) {
        AskedValley v = Due.of(valley);
        Due.law(v, "e1(q=0);g1(1=1)");
        for (int i = 0; i < 99; i++) {
            v.days(100);
        }
        return v;
    }

    private static void asked() {
        Sentence.of("Terms", "ASKED (how many QUESTIONS; 9999 at most)");
        AskedValley v = old("2;a:*>.=0");
        Due.is("asked", v.count(6), 9900);
        Due.census(v, "2(9a9a9a9a2a)");
        Due.is("asked by a census that is too long", v.count(6), 9900);
        Due.census(v, "9(4a)");
        Due.census(v, "9(4a)");
        Due.census(v, "5(5a)a");
        Due.is("asked", v.count(6), 9998);
        Due.census(v, "b");
        Due.is("the most", v.count(6), 9999);
        Due.census(v, "b");
        Due.is("still the most", v.count(6), 9999);
        Due.is("a day", v.days(1), 1);
        Due.is("still the most", v.count(6), 9999);
        v = old("2;a:*>.=0");
        v.days(98);
        Due.census(v, "5b");
        Due.is("it stops on the way", v.count(6), 9999);
        v = old("2;a:*>.=0");
        Due.census(v, "5(8b)");
        Due.census(v, "5(8b)");
        Due.census(v, "9b9b");
        Due.is("by days", v.days(2), 2);
        Due.is("by days it stops, too", v.count(6), 9999);
    }

    private static void sum() {
        Sentence.of("Terms", "SUM of ANSWERS (99999 at most)");
        // 89100 by days, 360 by a census of 40.
        AskedValley v = old("2;a:*>.=9;b:*>.=1");
        for (int i = 0; i < 30; i++) {
            Due.census(v, "5(8a)");
        }
        Due.is("sum", v.count(7), 99900);
        Due.census(v, "9a2a");
        Due.is("the most", v.count(7), 99999);
        Due.census(v, "b");
        Due.is("still the most", v.count(7), 99999);
        Due.is("a day", v.days(1), 1);
        Due.is("still the most", v.count(7), 99999);
        v = old("2;a:*>.=9;b:*>.=1");
        for (int i = 0; i < 30; i++) {
            Due.census(v, "5(8a)");
        }
        Due.census(v, "9aa8b");
        Due.is("one below the most", v.count(7), 99998);
        Due.is("a day", v.days(1), 1);
        Due.is("it stops on the way", v.count(7), 99999);
    }

    private static void day() {
        Sentence.of("Terms", "THE DAY (0 at first)");
        AskedValley v = new AskedValley();
        Due.is("at first", v.count(0), 0);
        Due.valley(v, "2");
        Due.is("with a valley", v.count(0), 0);
        v.days(1);
        Due.is("behind a day", v.count(0), 1);
    }

    /** A valley whose lines have so many rules each. */
    private static String told(String number, int... rules) {
        StringBuilder text = new StringBuilder(number);
        for (int q = 0; q < rules.length; q++) {
            text.append(';').append(LETTERS.charAt(q)).append(':');
            for (int r = 0; r < rules[q]; r++) {
                text.append(r == 0 ? "" : ",").append(r).append(">.=").append(r);
            }
        }
        return text.toString();
    }

    private static void length() {
        Sentence.of("Terms", "THE VALLEY: a TEXT of at most 220 bytes, no blanks");
        String longest = told("05", 5, 5, 5, 5, 5, 5, 4);
        String longer = told("5", 5, 5, 4, 4, 4, 4, 4, 4);
        Due.is("the longest", longest.length(), 220);
        Due.is("one more", longer.length(), 221);
        reads(longest, 5);
        reads(longer, -1);
        String text = "3;a:0>1=5,*>.=7;h:2>2=0";
        for (int i = 0; i <= text.length(); i++) {
            reads(text.substring(0, i) + " " + text.substring(i), -1000 - i);
        }
    }

    private static void number() {
        Sentence.of("Terms", "a number of one or two digits (STATES, 2 to 10)");
        reads("2", 2);
        reads("9", 9);
        reads("02", 2);
        reads("09", 9);
        reads("10", 10);
        reads("1", -3000);
        reads("01", -3000);
        reads("11", -3000);
        reads("010", -2002);
    }

    private static void lines() {
        Sentence.of("Terms", "then LINES (none to 8), a ; (59) ahead of each");
        reads("2", 2);
        StringBuilder text = new StringBuilder("2");
        for (int q = 0; q < 8; q++) {
            text.append((char) 59).append(LETTERS.charAt(q)).append(":*>1=").append(q);
            AskedValley v = Due.of(text.toString());
            Due.is("the last line", v.askedAt(q, 0, 0), q);
            Due.is("the last line", v.askedAt(q, 0, 1), 1);
        }
        Due.is("eight lines", text.length(), 65);
        reads(text + ";", -1066);
        reads(text + ";i", -1066);
        reads(text + ";a", -6066);
        reads("2:a:*>1=1", -1001);
        reads("2;a:*>1=1:b", -1009);
    }

    private static void letterAndRules() {
        Sentence.of("Terms", "a letter a to h, : (58), and RULES with a , between two");
        AskedValley v = Due.of("3;a" + (char) 58 + "0>1=1,1>2=2,2>0=3");
        for (int s = 0; s < 3; s++) {
            Due.is("rule " + s, v.askedAt(0, s, 0), s + 1);
        }
        reads("3;a", -1003);
        reads("3;a0>1=1", -1003);
        reads("3;a:", -1004);
        reads("3;a:;b:0>1=1", -1004);
        reads("3;a:0>1=1,", -1010);
        reads("3;a:0>1=11>1=1", -1009);
        reads("3;a:0>1=1,,1>1=1", -1010);
        reads("3;a:0>1=1,;b:0>1=1", -1010);
    }

    private static void ruleState() {
        Sentence.of("Terms", "a digit (a STATE) or * (42: each STATE not told ahead in this LINE)");
        AskedValley v = Due.of("4;b:*>3=1;a:2>0=5,0>1=6," + (char) 42 + ">2=7");
        int[] answer = {6, 7, 5, 7};
        int[] behind = {1, 2, 0, 2};
        for (int s = 0; s < 4; s++) {
            Due.is("a at " + s, v.askedAt(0, s, 0), answer[s]);
            Due.is("behind a at " + s, v.askedAt(0, s, 1), behind[s]);
            Due.is("b at " + s, v.askedAt(1, s, 1), 3);
        }
        v = Due.of("2;a:1>0=5,0>1=6,*>0=7");
        Due.is("none was left", v.askedAt(0, 0, 0), 6);
        Due.is("none was left", v.askedAt(0, 1, 0), 5);
    }

    private static void stateBehind() {
        Sentence.of("Terms", "> (62), a digit (the STATE behind it) or a dot (46: it stays)");
        AskedValley v = Due.of("10;a:3" + (char) 62 + (char) 46 + "=1,4>9=1,5>0=1,*>.=2");
        for (int s = 0; s < 10; s++) {
            Due.is("behind " + s, v.askedAt(0, s, 1), s == 4 ? 9 : s == 5 ? 0 : s);
        }
        reads("3;a:0=1", -1005);
        reads("3;a:0>=1", -1006);
        reads("3;a:0>*=1", -1006);
    }

    private static void answerDigit() {
        Sentence.of("Terms", "= and a digit (the ANSWER)");
        for (int a = 0; a <= 9; a++) {
            Due.is("answer", Due.of("2;a:1>0=" + a).askedAt(0, 1, 0), a);
        }
        reads("3;a:0>1", -1007);
        reads("3;a:0>12", -1007);
        reads("3;a:0>1=", -1008);
        reads("3;a:0>1=.", -1008);
        reads("3;a:0>1=12", -1009);
    }

    private static void notTold() {
        Sentence.of("Terms", "A STATE that is told by no RULE of a QUESTION, a QUESTION without a LINE: it stays, the ANSWER is 0.");
        AskedValley v = Due.of("10;a:*>5=5;b:*>5=5;c:*>5=5;d:*>5=5;e:*>5=5;f:*>5=5;g:*>5=5;h:*>5=5");
        // What valleys before it had, or a text with a fault, is not told by the new one.
        Due.is("another valley", Due.valley(v, "10;a:*>6=6;b:*>6=6;c:*>6=6;d:*>6=6"), 10);
        Due.is("a fault", Due.valley(v, "10;e:*>3=3;f:*>3=3;g:*>3=3;h:*>3=3;"), -1035);
        Due.is("another valley", Due.valley(v, "10;c:4>6=7"), 10);
        for (int q = 0; q < 8; q++) {
            for (int s = 0; s < 10; s++) {
                boolean isTold = q == 2 && s == 4;
                Due.is("answer", v.askedAt(q, s, 0), isTold ? 7 : 0);
                Due.is("behind", v.askedAt(q, s, 1), isTold ? 6 : s);
            }
        }
    }

    private static void signs() {
        Sentence.of("Terms", "FAULTS, the first from the left: 1 what can't stand there (the end, too); 2 a third digit of the number, at it");
        // What may stand at each place: N the number's first digit, n behind it, q a letter, : > = themselves,
        // s a state told, b one behind, a an answer, m more or the end.
        String text = "3;a:0>1=5,*>.=7;h:2>2=0";
        String kind = "Nnq:s>b=ams>b=amq:s>b=am";
        for (int i = 0; i <= text.length(); i++) {
            String may = may(kind.charAt(i));
            for (int sign = 0; sign < 256; sign++) {
                if (may.indexOf(sign) < 0) {
                    String rest = i < text.length() ? text.substring(i + 1) : "";
                    reads(text.substring(0, i) + (char) sign + rest, -1000 - i);
                }
            }
            if (i > 0) {
                boolean mayEnd = kind.charAt(i) == 'n' || kind.charAt(i) == 'm';
                reads(text.substring(0, i), mayEnd ? 3 : -1000 - i);
            }
        }
        // The first from the left, whatever comes behind it.
        reads("3;a:0>x=x;a:9", -1006);
        reads("3;a:9>x", -3004);
        reads("x23", -1000);
    }

    private static String may(char kind) {
        switch (kind) {
            case 'N':
            case 'a':
                return DIGITS;
            case 'n':
                return DIGITS + ";";
            case 'q':
                return LETTERS;
            case 's':
                return DIGITS + "*";
            case 'b':
                return DIGITS + ".";
            case 'm':
                return ",;";
            default:
                return String.valueOf(kind);
        }
    }

    private static void thirdDigit() {
        Sentence.of("Terms", "2 a third digit of the number, at it; 3 a number below 2");
        for (int n = 0; n < 1000; n++) {
            reads("" + n / 100 + n / 10 % 10 + n % 10, -2002);
        }
        reads("100;", -2002);
        reads("1000", -2002);
        reads("22;a", -3000);
    }

    private static void wrongNumber() {
        Sentence.of("Terms", "3 a number below 2 or above 10, at its first digit (asked when it ends)");
        for (int n = 0; n < 100; n++) {
            String two = "" + n / 10 + n % 10;
            int due = n < 2 || n > 10 ? -3000 : n;
            reads(two, due);
            reads(two + ";a:0>1=2", due);
            reads(two + "x", due < 0 ? due : -1002);
            if (n < 10) {
                reads("" + n, due);
                reads(n + ";a:0>1=2", due);
                reads(n + "x", due < 0 ? due : -1001);
            }
        }
        reads("1;a:5", -3000);
        reads("0", -3000);
    }

    private static void noSuchState() {
        Sentence.of("Terms", "a STATE there is not, at it");
        for (int n = 2; n <= 10; n++) {
            String number = n < 10 ? "0" + n : "10";
            for (int s = 0; s < 10; s++) {
                reads(number + ";a:" + s + ">0=1", s < n ? n : -3005);
                reads(number + ";a:0>" + s + "=1", s < n ? n : -3007);
                reads(number + ";a:*>" + s + "=1", s < n ? n : -3007);
                reads(number + ";a:0>0=1," + s, s == 0 ? -7011 : s < n ? -1012 : -3011);
            }
        }
    }

    private static void questionTwice() {
        Sentence.of("Terms", "6 a QUESTION told twice, at its letter");
        for (int q = 0; q < 8; q++) {
            char letter = LETTERS.charAt(q);
            char other = LETTERS.charAt((q + 1) % 8);
            reads("2;" + letter + ":0>1=1;" + letter + ":0>1=1", -6010);
            reads("2;" + letter + ":0>1=1;" + letter, -6010);
            reads("2;" + letter + ":0>1=1;" + other + ":0>1=1;" + letter + "x", -6018);
            reads("2;" + letter + ":0>1=1;" + other + ":0>1=1", 2);
        }
    }

    private static void stateTwice() {
        Sentence.of("Terms", "7 a STATE told twice in a LINE, a RULE behind one with *, at the RULE's first byte (if that can stand there, behind 3)");
        for (int s = 0; s < 10; s++) {
            int other = (s + 1) % 10;
            reads("10;a:" + s + ">1=1," + s + ">2=2", -7011);
            reads("10;a:" + s + ">1=1," + s, -7011);
            reads("10;a:" + s + ">1=1," + other + ">1=1," + s, -7017);
            reads("10;a:" + s + ">1=1;b:" + s + ">1=1", 10);
            reads("10;a:*>1=1," + s, -7011);
            reads("10;a:*>1=1;b:" + s + ">1=1", 10);
        }
        reads("2;a:*>1=1,*", -7010);
        reads("2;a:0>1=1,*>1=1,*>1=1", -7016);
        reads("2;a:0>1=1,1>1=1,*>1=1", 2);
        reads("2;a:0>1=1,1>1=1,0>1=1", -7016);
        reads("2;a:0>1=1,1>1=1,*>1=1,0", -7022);
        reads("2;a:*>1=1;b:*>1=1", 2);
        String all = told("10", 10);
        reads(all, 10);
        reads(all + ",9", -7065);
        reads(all + ",*>.=1", 10);
        reads(all + ",*>.=1,*", -7071);
        reads(all + ",*>.=1,9", -7071);
        reads(all + ",*>.=1,x", -1071);
        reads(all + ",*>.=1,", -1071);
        // What can't stand there is fault 1, a state there is not is fault 3, even behind a *.
        reads("2;a:*>1=1,x", -1010);
        reads("2;a:*>1=1,", -1010);
        reads("2;a:*>1=1,.", -1010);
        reads("2;a:*>1=1,2", -3010);
        reads("2;a:0>1=1,2", -3010);
        // The rule's first byte is asked ahead of what stands behind it.
        reads("2;a:0>1=1,0x", -7010);
        reads("2;a:0>9=1,0>1=1", -3006);
    }

    private static void then() {
        Sentence.of("Terms", "THE STATE is 0, THE LAST ANSWER 0, THE LAST QUESTION 8 then.");
        AskedValley v = Due.of("4;c:*>3=7");
        Due.law(v, "e1(q=2)");
        v.days(3);
        Due.census(v, "2c");
        Due.same("ahead of it", "3 4 3 7 2 996 5 35 1 0 20196 ", Due.all(v));
        Due.is("a fault", Due.valley(v, "4;"), -1002);
        Due.same("behind a fault", "3 4 3 7 2 996 5 35 1 0 20196 ", Due.all(v));
        Due.is("the same valley again", Due.valley(v, "4;c:*>3=7"), 4);
        Due.same("behind it", "3 4 0 0 8 996 5 35 1 0 20196 ", Due.all(v));
    }
}
