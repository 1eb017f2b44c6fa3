import java.util.Arrays;

/** Promises 1 to 11 and 28 to 32: settings, the tape, texts, days, what is kept: each bound and each refusal. */
final class PromiseBounds {
    private static final String ROUND = "4;a:0>1=0,1>2=0,2>3=0,3>0=1;b:0>0=1,*>0=0";
    private static final int FULL = 260;
    private static final int[] FAR = {Integer.MAX_VALUE, Integer.MIN_VALUE};

    private PromiseBounds() {
    }

    static void run() {
        newObject();
        state();
        price();
        purse();
        feed();
        lawLength();
        lawCount();
        lawFault();
        lawRefused();
        valleyLength();
        valleyFault();
        valleyRefused();
        censusLength();
        censusFault();
        censusRefused();
        lookLikewise();
        look();
        lookPlace();
        lookRefused();
        days();
        daysRefused();
        tried();
        triedRefused();
        seed();
        keep();
        undo();
        check();
        checkRefused();
        count();
    }

    /** So many bytes, all like the sign, are all that is on the tape. */
    static AskedValley fill(AskedValley v, int bytes, char sign) {
        v.check(0, 0);
        for (int i = 0; i < bytes; i += 20) {
            Due.feed(v, String.valueOf(sign).repeat(20));
        }
        Due.is("bytes", v.count(9), bytes);
        return v;
    }

    private static void newObject() {
        Sentence.of("Promise 1", "No VALLEY, LAW; THE SEED 1.");
        AskedValley v = new AskedValley();
        Due.same("all counts", "0 0 0 0 8 999 0 0 0 0 1 ", Due.all(v));
        Due.is("no valley", v.askedAt(0, 0, 0), -1);
        Due.is("no valley", v.classes(100), -1);
        Due.valley(v, "2");
        Due.is("no law", v.tried(100, 0), 0);
        v.days(1);
        Due.is("the seed 1", v.count(10), 39022);
    }

    private static void state() {
        Sentence.of("Promise 2", "THE STATE: true; false: no such one.");
        AskedValley v = new AskedValley();
        Due.is("without a valley", v.state(0), false);
        Due.valley(v, "3;a:*>0=6");
        Due.census(v, "a");
        int[] s = {1, 0, 2, -1, 3, 9, 10, FAR[0], FAR[1]};
        boolean[] due = {true, true, true, false, false, false, false, false, false};
        int last = 0;
        for (int i = 0; i < s.length; i++) {
            Due.is("state " + s[i], v.state(s[i]), due[i]);
            last = due[i] ? s[i] : last;
            Due.same("behind state " + s[i], "0 3 " + last + " 6 0 999 1 6 0 0 1 ", Due.all(v));
        }
    }

    private static void price() {
        Sentence.of("Promise 3", "PRICE of a QUESTION: true; false: no such ones.");
        AskedValley v = Due.of("2;a:0>1=0;h:1>0=0");
        int[][] calls = {{0, 0}, {7, 99}, {-1, 50}, {8, 50}, {0, -1}, {0, 100}, {7, -1}, {7, 100}, {-1, -1}, {8, 100},
            {FAR[0], 1}, {FAR[1], 1}, {0, FAR[0]}, {0, FAR[1]}};
        for (int i = 0; i < calls.length; i++) {
            Due.is("price " + calls[i][0] + " " + calls[i][1], v.price(calls[i][0], calls[i][1]), i < 2);
            Due.is("the price of a", v.cheapest(0, 1), 0);
            Due.is("the price of h", v.cheapest(1, 0), i < 1 ? 1 : 99);
        }
        Due.is("without a valley", new AskedValley().price(3, 3), true);
    }

    private static void purse() {
        Sentence.of("Promise 4", "THE PURSE: true; false: no such number.");
        AskedValley v = new AskedValley();
        int[] value = {0, 1, 9998, 9999, -1, 10000, FAR[0], FAR[1]};
        for (int i = 0; i < value.length; i++) {
            Due.is("purse " + value[i], v.purse(value[i]), i < 4);
            Due.is("the purse", v.count(5), value[Math.min(i, 3)]);
        }
    }

    private static void feed() {
        Sentence.of("Promise 5", "Twenty bytes come behind the tape, the highest of each int first: how many it has; NONE if that would be more than 260.");
        AskedValley v = Due.of("2;a:0>1=1,*>0=2");
        String text = "a".repeat(20);
        for (int i = 1; i <= 13; i++) {
            Due.is("feed", v.feed(0x61616161, 0x61616161, 0x61616161, 0x61616161, 0x61616161), 20 * i);
        }
        Due.is("the most", v.count(9), FULL);
        Due.is("one feed more", v.feed(-1, -1, -1, -1, -1), -1);
        Due.is("once more", v.feed(-1, -1, -1, -1, -1), -1);
        Due.is("still the most", v.count(9), FULL);
        Due.is("what was there stays", v.look(40, 103), 40);
        Due.is("it is empty then", v.count(9), 0);
        Due.feed(v, text);
        Due.is("behind what was there", v.feed(0x62626262, 0x62626262, 0x62626262, 0x62626262, 0x62626262), 40);
        Due.is("behind what was there", v.look(21, 100), 0);
        // Bytes 0 to 255, the highest first: the answers of a valley without states are 255.
        AskedValley none = new AskedValley();
        int[] bytes = {255, 254, 128, 127, 1, 0, 2, 200, 255, 255};
        for (int i = 0; i < 10; i++) {
            int[] all = new int[20];
            Arrays.fill(all, 255);
            all[i] = bytes[i];
            none.feed(word(all, 0), word(all, 4), word(all, 8), word(all, 12), word(all, 16));
            Due.is("the byte " + i, none.check(0, 10), bytes[i] == 255 ? -1 : i);
        }
    }

    private static int word(int[] bytes, int from) {
        return bytes[from] << 24 | bytes[from + 1] << 16 | bytes[from + 2] << 8 | bytes[from + 3];
    }

    private static void lawLength() {
        Sentence.of("Promise 6", "THE LAW by the first n bytes of the tape (1 to 240; empty then)");
        AskedValley v = fill(new AskedValley(), FULL, 'x');
        Due.is("none", v.law(0), -1);
        Due.is("241", v.law(241), -1);
        Due.is("the tape stays", v.count(9), FULL);
        Due.is("240", v.law(240), -1001);
        Due.is("empty then", v.count(9), 0);
        fill(v, 20, 'x');
        Due.is("1", v.law(1), -1001);
        Due.is("empty then", v.count(9), 0);
        Due.feed(v, "x(1=1);x(1=1)");
        Due.is("the first of two", v.law(6), 1);
        Due.is("empty then", v.count(9), 0);
    }

    private static void lawCount() {
        Sentence.of("Promise 6", "in place of the one before: how many RULES");
        AskedValley v = Due.of(ROUND);
        Due.is("three", Due.law(v, "e5(q=4);x(q=0);g1(1=1)"), 3);
        Due.is("one", Due.law(v, "e1(q=0)"), 1);
        Due.is("rules", v.count(8), 1);
        Due.is("nothing of the one before", v.tried(1, 5), 0);
        Due.is("nothing of the one before", v.tried(1, 2), 998);
        // One in place of others, again and again, with a fault between.
        String ones = "1=1&".repeat(54) + "1=1)";
        String[] many = {"x(1=1);".repeat(15) + "g9(1=1)", "g9(1=1);".repeat(15) + "x(1=1)"};
        for (int i = 0; i < 12; i++) {
            Due.is("many", Due.law(v, many[i % 2]), 16);
            Due.is("many", Due.law(v, many[i % 2]), 16);
            Due.is("a fault", Due.law(v, "e1(q=5);z"), -1008);
            Due.is("few", Due.law(v, "e1(q=6&" + ones), 1);
            Due.is("nothing of those before", v.tried(1, 5), 6);
            Due.is("nothing of those before", v.tried(1, 2), 998);
        }
    }

    private static void lawFault() {
        Sentence.of("Promise 6", "a FAULT: -1000 times its number, less its place (the one before stays)");
        AskedValley v = Due.of(ROUND);
        Due.law(v, "e5(q=4);x(q=0)");
        String full = "x(q=0);".repeat(16);
        String[] text = {"z", "x(q=0);e7(1=1);", "e123456", full + "x", "x(((((((", "e7(q=1);x(q=2);x"};
        int[] due = {-1000, -1015, -2006, -4112, -5007, -1016};
        for (int i = 0; i < text.length; i++) {
            Due.is("law " + text[i], Due.law(v, text[i]), due[i]);
            Due.is("the tape is empty then", v.count(9), 0);
            Due.is("the one before stays", v.count(8), 2);
            Due.is("the one before stays", v.tried(1, 5), 4);
        }
        // A place beyond 99, and the last there can be: the end of 240 bytes.
        String longest = "x(1=" + "1+".repeat(118);
        Due.is("its length", longest.length(), 240);
        Due.is("the end of 240", Due.law(v, longest), -1240);
        // A fault of the first law leaves none.
        AskedValley none = new AskedValley();
        Due.law(none, "e1(1=1);z");
        Due.is("none before", none.count(8), 0);
    }

    private static void lawRefused() {
        Sentence.of("Promise 6", "NONE: no such n, it has not so many (the tape stays).");
        AskedValley v = new AskedValley();
        Due.law(v, "x(1=1);x(1=1)");
        Due.is("an empty tape", v.law(1), -1);
        for (int size = 20; size <= FULL; size += 20) {
            fill(v, size, 'x');
            int[] no = {0, -1, size + 1, 241, FAR[0], FAR[1]};
            for (int n : no) {
                Due.is("law " + n + " of " + size, v.law(n), -1);
                Due.is("the tape stays", v.count(9), size);
            }
            Due.is("just enough", v.law(Math.min(size, 240)), -1001);
            Due.is("the law before", v.count(8), 2);
        }
    }

    private static void valleyLength() {
        Sentence.of("Promise 7", "THE VALLEY by the first n bytes of the tape (1 to 220; empty then): how many STATES");
        AskedValley v = fill(new AskedValley(), FULL, '3');
        Due.is("none", v.valley(0), -1);
        Due.is("221", v.valley(221), -1);
        Due.is("the tape stays", v.count(9), FULL);
        Due.is("220", v.valley(220), -2002);
        Due.is("empty then", v.count(9), 0);
        for (int n = 2; n <= 10; n++) {
            Due.feed(v, n + ";a:0>1=1");
            Due.is("the number alone", v.valley(n < 10 ? 1 : 2), n);
            Due.is("states", v.count(1), n);
            Due.is("empty then", v.count(9), 0);
            Due.is("no line was read", v.askedAt(0, 0, 1), 0);
        }
    }

    private static void valleyFault() {
        Sentence.of("Promise 7", "a FAULT (all stays)");
        AskedValley v = Due.of("3;a:*>1=4");
        Due.law(v, "e1(1=1)");
        v.days(2);
        v.state(2);
        String before = Due.all(v);
        String[] text = {"x", "222", "1", "11", "9;a:0>1=1;", "9;b:0>9=1;a:9", "9;a:9", "9;a:0>1=1;a", "9;a:0>1=1,0", "9;a:*>1=1,*"};
        int[] due = {-1000, -2002, -3000, -3000, -1010, -3006, -3004, -6010, -7010, -7010};
        for (int i = 0; i < text.length; i++) {
            Due.is("valley " + text[i], Due.valley(v, text[i]), due[i]);
            Due.same("all stays, the tape is empty then: " + text[i], before, Due.all(v));
            Due.is("all stays", v.askedAt(0, 0, 0), 4);
            Due.is("all stays", v.askedAt(1, 0, 1), 0);
        }
        Due.is("the end of 220", Due.valley(v, "9;a:" + "0>1=1,".repeat(36)), -7010);
        StringBuilder longest = new StringBuilder("05");
        for (char q = 'a'; q <= 'f'; q++) {
            longest.append(';').append(q).append(":0>.=1,1>.=1,2>.=1,3>.=1,4>.=1");
        }
        longest.append(";h:0>.=1,1>.=1,2>.=1,3>.=1");
        Due.is("its length", longest.length(), 220);
        Due.is("the end of 219", Due.valley(v, longest.substring(0, 219)), -1219);
        Due.same("all stays", before, Due.all(v));
        Due.is("220", Due.valley(v, longest.toString()), 5);
        // A fault of the first valley leaves none.
        AskedValley none = new AskedValley();
        Due.valley(none, "4;a:0>1=1;");
        Due.is("none before", none.count(1), 0);
        Due.is("none before", none.askedAt(0, 0, 0), -1);
    }

    private static void valleyRefused() {
        Sentence.of("Promise 7", "NONE: as above.");
        AskedValley v = new AskedValley();
        Due.is("an empty tape", v.valley(1), -1);
        for (int size = 20; size <= FULL; size += 20) {
            fill(v, size, 'x');
            int[] no = {0, -1, size + 1, 221, FAR[0], FAR[1]};
            for (int n : no) {
                Due.is("valley " + n + " of " + size, v.valley(n), -1);
                Due.is("the tape stays", v.count(9), size);
            }
            Due.is("just enough", v.valley(Math.min(size, 220)), -1000);
        }
    }

    private static void censusLength() {
        Sentence.of("Promise 8", "A CENSUS by the first n bytes of the tape (1 to 60; empty then) is taken: THE LAST ANSWER");
        AskedValley v = fill(Due.of(ROUND), FULL, 'b');
        Due.is("none", v.census(0), -1);
        Due.is("61", v.census(61), -1);
        Due.is("the tape stays", v.count(9), FULL);
        Due.is("60", v.census(60), -6040);
        Due.is("empty then", v.count(9), 0);
        fill(v, 20, 'b');
        Due.is("1", v.census(1), 1);
        Due.is("empty then", v.count(9), 0);
        Due.is("one was asked", v.count(6), 1);
        v.state(2);
        Due.is("the last answer", Due.census(v, "bab"), 0);
        Due.is("the last answer", v.count(3), 0);
        Due.is("the last answer of a question without a line", Due.census(v, "bbh"), 0);
        Due.is("the last question", v.count(4), 7);
    }

    private static void censusFault() {
        Sentence.of("Promise 8", "a FAULT (nothing is done)");
        AskedValley v = Due.of(ROUND);
        Due.census(v, "3a");
        String before = Due.all(v);
        String[] text = {"i", "aaai", "ab(", "aab(((", "aab9(9b)", "a".repeat(41), "a".repeat(59) + "i"};
        int[] due = {-1000, -1003, -1003, -5005, -6003, -6040, -6040};
        for (int i = 0; i < text.length; i++) {
            Due.is("census " + text[i], Due.census(v, text[i]), due[i]);
            Due.same("nothing is done, the tape is empty then: " + text[i], before, Due.all(v));
        }
        Due.is("the end of 60", Due.census(v, "(" + "(a)".repeat(19) + "aa"), -1060);
        Due.same("nothing is done", before, Due.all(v));
    }

    private static void censusRefused() {
        Sentence.of("Promise 8", "-1: no such n, it has not so many (the tape stays), no VALLEY (the tape stays).");
        AskedValley v = Due.of(ROUND);
        Due.is("an empty tape", v.census(1), -1);
        for (int size = 20; size <= FULL; size += 20) {
            fill(v, size, 'i');
            int[] no = {0, -1, size + 1, 61, FAR[0], FAR[1]};
            for (int n : no) {
                Due.is("census " + n + " of " + size, v.census(n), -1);
                Due.is("the tape stays", v.count(9), size);
            }
            Due.is("just enough", v.census(Math.min(size, 60)), -1000);
        }
        AskedValley none = fill(new AskedValley(), 20, 'a');
        Due.is("no valley", none.census(1), -1);
        Due.is("no valley, and a fault", fill(none, 20, 'i').census(1), -1);
        Due.same("no valley: the tape stays", "0 0 0 0 8 999 0 0 0 20 1 ", Due.all(none));
    }

    private static void lookLikewise() {
        Sentence.of("Promise 9", "A CENSUS likewise is looked at");
        // By the first n bytes of the tape, 1 to 60, which is empty then; what a census would do is told, and not done.
        AskedValley v = Due.of("5;a:0>1=1,1>2=2,2>3=3,3>4=4;b:*>0=9");
        Due.census(v, "a");
        String before = Due.all(v);
        String[] text = {"a", "2ab", "2(ab)a", "(2(2a)b)", "h", "(a)".repeat(20)};
        for (String each : text) {
            Due.feed(v, each + "zzz");
            int answer = v.look(each.length(), 100);
            Due.is("the tape is empty then: " + each, v.count(9), 0);
            int state = Due.look(v, each, 101);
            int sum = Due.look(v, each, 102);
            int many = Due.look(v, each, 103);
            Due.same("it is not taken: " + each, before, Due.all(v));
            v.keep();
            Due.is("the last answer of " + each, Due.census(v, each), answer);
            Due.is("the state behind " + each, v.count(2), state);
            Due.is("how many " + each, v.count(6), 1 + many);
            Due.is("the answers of " + each, v.count(7), 1 + sum);
            v.undo();
        }
    }

    private static void look() {
        Sentence.of("Promise 9", "what 100 the last ANSWER, 101 THE STATE behind it, 102 ANSWERS added up, 103 how many QUESTIONS, "
                + "104 STATES come by (bits, the first and last, too)");
        AskedValley v = Due.of("10;a:0>1=1,1>2=2,2>3=3,3>4=4,4>5=5,5>6=6,6>7=7,7>8=8,8>9=9,9>9=9");
        int[] one = {1, 1, 1, 1, 3};
        int[] most = {9, 9, 9 * 10 / 2 + 31 * 9, 40, 1023};
        for (int i = 0; i < 5; i++) {
            Due.is("one: " + (100 + i), Due.look(v, "a", 100 + i), one[i]);
            Due.is("forty: " + (100 + i), Due.look(v, "5(8a)", 100 + i), most[i]);
        }
        v.state(9);
        Due.is("it stays: the first is the last", Due.look(v, "a", 104), 512);
        Due.is("the most", Due.look(v, "5(8a)", 102), 360);
        Due.is("below 100", Due.look(v, "a", 99), -1);
        v.check(0, 0);
        Due.is("beyond 104", Due.look(v, "a", 105), -1);
    }

    private static void lookPlace() {
        Sentence.of("Promise 9", "else the ANSWER at place what (0 to 39); -4: no such place");
        AskedValley v = Due.of("10;a:0>1=1,1>2=2,2>3=3,3>4=4,4>5=5,5>6=6,6>7=7,7>8=8,8>9=9,9>0=0");
        for (int what = 0; what < 40; what++) {
            Due.is("of forty the place " + what, Due.look(v, "5(8a)", what), (what + 1) % 10);
            Due.is("of one the place " + what, Due.look(v, "a", what), what == 0 ? 1 : -4);
            Due.is("the tape is empty then", v.count(9), 0);
        }
        Due.is("of 39 the place 39", Due.look(v, "3(9a)9a3a", 39), -4);
        Due.is("of 39 the place 38", Due.look(v, "3(9a)9a3a", 38), 9);
        Due.is("place 40", Due.look(v, "5(8a)", 40), -1);
        v.check(0, 0);
        Due.is("place -1", Due.look(v, "5(8a)", -1), -1);
    }

    private static void lookRefused() {
        Sentence.of("Promise 9", "FAULTS, NONE as above (NONE: no such what, too).");
        String[] text = {"i", "aaai", "ab(", "aab(((", "aab9(9b)", "a".repeat(41)};
        int[] due = {-1000, -1003, -1003, -5005, -6003, -6040};
        int[] what = {100, 101, 102, 103, 104, 0, 39};
        for (int i = 0; i < text.length; i++) {
            AskedValley v = Due.of(ROUND);
            v.state(3);
            for (int each : what) {
                Due.is("look " + text[i] + " " + each, Due.look(v, text[i], each), due[i]);
                Due.same("all stays, the tape is empty then", "0 4 3 0 8 999 0 0 0 0 1 ", Due.all(v));
            }
        }
        AskedValley v = Due.of(ROUND);
        Due.is("an empty tape", v.look(1, 100), -1);
        fill(v, 80, 'a');
        int[] no = {0, -1, 61, 80, 81, FAR[0], FAR[1]};
        for (int n : no) {
            Due.is("look " + n, v.look(n, 100), -1);
        }
        int[] noWhat = {-1, 40, 99, 105, FAR[0], FAR[1]};
        for (int each : noWhat) {
            Due.is("look what " + each, v.look(1, each), -1);
        }
        Due.is("the tape stays", v.count(9), 80);
        fill(v, 20, 'a');
        Due.is("one too few", v.look(21, 100), -1);
        Due.is("the tape stays", v.count(9), 20);
        Due.is("just enough", v.look(20, 103), 20);
        AskedValley none = fill(new AskedValley(), 20, 'a');
        Due.is("no valley", none.look(1, 100), -1);
        Due.is("no valley: the tape stays", none.count(9), 20);
    }

    private static void days() {
        Sentence.of("Promise 10", "DAYS (1 to 100; as many as can) go by: how many QUESTIONS were asked");
        AskedValley v = Due.of(ROUND);
        Due.law(v, "e1(t%2=0);g1(1=1)");
        Due.is("one", v.days(1), 1);
        Due.is("one", v.days(1), 0);
        Due.is("the day", v.count(0), 2);
        Due.is("a hundred", v.days(100), 50);
        Due.is("the day", v.count(0), 102);
        for (int i = 0; i < 98; i++) {
            v.days(100);
        }
        Due.is("the day", v.count(0), 9902);
        Due.is("as many as can", v.days(100), 49);
        Due.is("the day", v.count(0), 9999);
        Due.is("none can", v.days(100), 0);
    }

    private static void daysRefused() {
        Sentence.of("Promise 10", "NONE: no such n.");
        AskedValley v = Due.of(ROUND);
        Due.law(v, "e1(1=1)");
        String before = Due.all(v);
        int[] no = {0, -1, 101, FAR[0], FAR[1]};
        for (int n : no) {
            Due.is("days " + n, v.days(n), -1);
            Due.same("days " + n, before, Due.all(v));
            Due.is("without a valley, days " + n, new AskedValley().days(n), -1);
        }
    }

    private static void tried() {
        Sentence.of("Promise 11", "DAYS (1 to 100; as many as can) that are tried, what 0 QUESTIONS asked in them, 1 ANSWERS in them added up, "
                + "2 THE PURSE, 3 THE STATE, 4 THE LAST ANSWER, 5 THE LAST QUESTION then");
        AskedValley v = Due.of("3;c:0>1=9,1>2=8,2>0=7");
        Due.law(v, "e1(q=2&w<9)");
        Due.census(v, "c");
        int[] one = {1, 8, 998, 2, 8, 2};
        int[] two = {2, 15, 997, 0, 7, 2};
        for (int what = 0; what < 6; what++) {
            Due.is("one day: " + what, v.tried(1, what), one[what]);
            Due.is("two days: " + what, v.tried(2, what), two[what]);
        }
        Due.law(v, "e1(q=2)");
        int[] hundred = {100, 33 * 24 + 8, 899, 2, 8, 2};
        for (int what = 0; what < 6; what++) {
            Due.is("a hundred days: " + what, v.tried(100, what), hundred[what]);
        }
        int[] none = {0, 0, 999, 0, 0, 8};
        for (int what = 0; what < 6; what++) {
            Due.is("without a valley: " + what, new AskedValley().tried(100, what), none[what]);
        }
        Due.law(v, "e1(q=0);g1(1=1)");
        for (int i = 0; i < 99; i++) {
            v.days(100);
        }
        Due.is("all but one can", v.tried(100, 0), 99);
        v.days(98);
        Due.is("one can", v.tried(2, 0), 1);
        v.days(1);
        Due.is("none can", v.tried(1, 0), 0);
    }

    private static void triedRefused() {
        Sentence.of("Promise 11", "NONE: no such ones.");
        AskedValley v = Due.of(ROUND);
        int[] no = {0, -1, 101, FAR[0], FAR[1]};
        for (int n : no) {
            for (int what = 0; what < 6; what++) {
                Due.is("tried " + n + " " + what, v.tried(n, what), -1);
            }
        }
        int[] noWhat = {-1, 6, 100, FAR[0], FAR[1]};
        for (int what : noWhat) {
            Due.is("tried what " + what, v.tried(1, what), -1);
            Due.is("tried what " + what, v.tried(100, what), -1);
        }
    }

    private static void seed() {
        Sentence.of("Promise 28", "THE SEED (0 to 65535; X, too): true; false: no such number.");
        AskedValley v = new AskedValley();
        int[] x = {0, 1, 65534, 65535, -1, 65536, FAR[0], FAR[1]};
        for (int i = 0; i < x.length; i++) {
            Due.is("seed " + x[i], v.seed(x[i]), i < 4);
            Due.is("X", v.count(10), x[Math.min(i, 3)]);
        }
        v.days(1);
        Due.is("X behind 65535", v.count(10), 54212);
    }

    private static void keep() {
        Sentence.of("Promise 29", "KEPT: THE DAY.");
        AskedValley v = new AskedValley();
        Due.is("at first", v.keep(), 0);
        v.days(7);
        Due.is("behind seven days", v.keep(), 7);
        v.days(1);
        v.undo();
        Due.is("kept last", v.count(0), 7);
        for (int i = 0; i < 100; i++) {
            v.days(100);
        }
        Due.is("the last day", v.keep(), 9999);
    }

    private static void undo() {
        Sentence.of("Promise 30", "UNDONE: true; false: none was KEPT.");
        AskedValley v = Due.of(ROUND);
        v.state(3);
        v.days(2);
        String before = Due.all(v);
        Due.is("none was kept", v.undo(), false);
        Due.same("none was kept", before, Due.all(v));
        v.keep();
        Due.is("undone at once", v.undo(), true);
        Due.same("undone at once", before, Due.all(v));
        v.days(1);
        Due.is("undone", v.undo(), true);
        Due.is("undone again", v.undo(), true);
        Due.same("undone", before, Due.all(v));
    }

    private static void check() {
        Sentence.of("Promise 31", "CHECK of a QUESTION (0 to 7) by the first n bytes of the tape (0 to 10; empty then; beyond the STATES, without a VALLEY 255): "
                + "NONE: right; else the first that is not so");
        AskedValley v = Due.of("3;a:0>0=1,1>0=2,2>0=3;h:*>0=9");
        int[] right = {1, 2, 3, 255, 255, 255, 255, 255, 255, 255};
        for (int n = 0; n <= 10; n++) {
            Due.feed(v, right);
            Due.is("right " + n, v.check(0, n), -1);
            Due.is("empty then", v.count(9), 0);
        }
        for (int i = 0; i < 10; i++) {
            int[] bytes = right.clone();
            bytes[i] = 0;
            Due.feed(v, bytes);
            Due.is("not so at " + i, v.check(0, 10), i);
            Due.is("empty then", v.count(9), 0);
            Due.feed(v, bytes);
            Due.is("ahead of it", v.check(0, i), -1);
        }
        Due.feed(v, 9, 9, 9);
        Due.is("the question h", v.check(7, 3), -1);
        Due.is("nothing of an empty tape", v.check(7, 0), -1);
        AskedValley none = new AskedValley();
        Due.feed(none, 255, 255, 255, 255, 255, 255, 255, 255, 255, 255);
        Due.is("without a valley", none.check(0, 10), -1);
        Due.feed(none, 254);
        Due.is("without a valley", none.check(0, 1), 0);
        AskedValley ten = Due.of("10");
        Due.feed(ten, new int[20]);
        Due.is("ten states", ten.check(0, 10), -1);
    }

    private static void checkRefused() {
        Sentence.of("Promise 31", "-2: no such ones, it has not so many (the tape stays).");
        AskedValley v = Due.of(ROUND);
        Due.is("an empty tape", v.check(0, 1), -2);
        Due.is("an empty tape", v.check(0, 10), -2);
        Due.feed(v, new int[20]);
        int[] no = {-1, 8, FAR[0], FAR[1]};
        for (int q : no) {
            Due.is("check " + q, v.check(q, 0), -2);
            Due.is("check " + q, v.check(q, 1), -2);
        }
        int[] none = {-1, 11, 20, FAR[0], FAR[1]};
        for (int n : none) {
            Due.is("check n " + n, v.check(0, n), -2);
        }
        Due.is("the tape stays", v.count(9), 20);
    }

    private static void count() {
        Sentence.of("Promise 32", "0 THE DAY, 1 STATES, 2 THE STATE, 3 THE LAST ANSWER, 4 THE LAST QUESTION, 5 THE PURSE, 6 ASKED, 7 SUM, 8 RULES, "
                + "9 bytes of the tape, 10 X. NONE for others.");
        AskedValley v = Due.of("7;d:0>.=1,*>6=9");
        Due.law(v, "e1(q=8);x(1=1)");
        v.days(3);
        v.state(1);
        Due.census(v, "4d");
        v.purse(77);
        v.seed(555);
        Due.feed(v, new int[30]);
        int[] due = {3, 7, 6, 9, 3, 77, 4, 36, 2, 40, 555};
        for (int what = 0; what <= 10; what++) {
            Due.is("count " + what, v.count(what), due[what]);
        }
        int[] no = {-1, 11, 12, 100, FAR[0], FAR[1]};
        for (int what : no) {
            Due.is("count " + what, v.count(what), -1);
        }
    }
}
