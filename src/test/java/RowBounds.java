import java.util.function.ToLongFunction;

/** What the terms tell of rows and states (the parts marked 2 and 3): each bound, each refusal, and what stays. */
final class RowBounds {
    /** a goes round and tells the last state; b goes back to 0 and tells if it was there. */
    private static final String ROUND = "4;a:0>1=0,1>2=0,2>3=0,3>0=1;b:0>0=1,*>0=0";
    private static final String CHAIN = "10;h:0>1=0,1>2=0,2>3=0,3>4=0,4>5=0,5>6=0,6>7=0,7>8=0,8>9=0,9>9=1";

    private RowBounds() {
    }

    static void run() {
        tried();
        looked();
        taken();
        places();
        forms();
        firstForm();
        leads();
        backs();
        cheapest();
        classes();
        parts();
        known();
        plans();
        logged();
        next();
        odds();
        turns();
        inspectors();
        together();
        togetherBits();
        loose();
        kept();
        checked();
        ownMemory();
        refused();
        none();
    }

    private static void tried() {
        Sentence.of("Terms", "TRIED are n DAYS by the DRAWS that will come (nothing is changed).");
        AskedValley v = Due.of("3;a:0>1=1,1>2=2,2>0=3;b:*>0=4");
        Due.law(v, "e3(q=w%2);g2(a=3)");
        v.seed(65535);
        Due.feed(v, "abc");
        String before = Due.all(v);
        int[] due = new int[6];
        for (int what = 0; what < 6; what++) {
            due[what] = v.tried(100, what);
        }
        Due.same("tried", before, Due.all(v));
        Due.is("questions", v.days(100), due[0]);
        Due.is("answers", v.count(7), due[1]);
        Due.is("the purse", v.count(5), due[2]);
        Due.is("the state", v.count(2), due[3]);
        Due.is("the last answer", v.count(3), due[4]);
        Due.is("the last question", v.count(4), due[5]);
    }

    private static void looked() {
        Sentence.of("Terms", "A row is looked at from THE STATE on: ANSWERS, STATES (nothing is changed)");
        AskedValley v = Due.of(CHAIN);
        v.state(7);
        String before = Due.all(v);
        int[] due = {1, 9, 1, 3, 1 << 7 | 1 << 8 | 1 << 9};
        for (int what = 0; what < 5; what++) {
            Due.is("look " + what, Due.look(v, "3h", 100 + what), due[what]);
        }
        Due.is("the first answer", Due.look(v, "3h", 0), 0);
        Due.same("looked at", before, Due.all(v));
    }

    private static void taken() {
        Sentence.of("Terms", "or taken: THE STATE, THE LAST ANSWER, THE LAST QUESTION, ASKED, SUM change (THE PURSE does not).");
        AskedValley v = Due.of(CHAIN);
        v.state(7);
        v.price(7, 99);
        v.purse(0);
        Due.is("taken", Due.census(v, "4h"), 1);
        Due.same("taken", "0 10 9 1 7 0 4 2 0 0 1 ", Due.all(v));
    }

    private static void places() {
        Sentence.of("Terms", "CHANGE PLACES: two QUESTIONS that, whatever THE STATE was, each have the same ANSWER and leave the same STATE, "
                + "whichever of them is asked first (one with itself: they may).");
        AskedValley v = Due.of("4;a:0>1=0,1>0=0,2>3=0,3>2=0;b:0>2=0,2>0=0,1>3=0,3>1=0;c:*>.=3;d:3>.=1;e:0>1=5,1>0=6,2>3=5,3>2=6");
        for (int q = 0; q < 8; q++) {
            Due.is("one with itself", v.changePlaces(q, q), 1);
        }
        int[][] may = {{0, 1, 1}, {0, 2, 1}, {0, 3, 0}, {1, 3, 0}, {2, 3, 1}, {0, 4, 0}, {1, 4, 1}, {4, 7, 1}, {3, 4, 0}};
        for (int[] each : may) {
            Due.is("places " + each[0] + each[1], v.changePlaces(each[0], each[1]), each[2]);
            Due.is("places " + each[1] + each[0], v.changePlaces(each[1], each[0]), each[2]);
        }
        // The first state matters, too: a and b differ there alone.
        v = Due.of("10;a:0>1=0;b:0>2=0");
        Due.is("at the first state", v.changePlaces(0, 1), 0);
        v = Due.of("10;b:0>5=3");
        Due.is("behind the last state there is none", v.changePlaces(0, 7), 1);
        // The last state matters: a and b differ there alone.
        v = Due.of("10;a:9>8=0;b:9>7=0;c:9>.=1;d:8>9=0");
        Due.is("at the last state", v.changePlaces(0, 1), 0);
        Due.is("at the last state", v.changePlaces(0, 2), 0);
        Due.is("at the last but one", v.changePlaces(2, 3), 0);
    }

    private static void forms() {
        Sentence.of("Terms", "FORMS of a row (1 to 10 QUESTIONS): rows that come of it by neighbours changing places that may (unlike ones): how many");
        AskedValley v = Due.of(ROUND);
        Due.is("one", Due.forms(v, "a", 100), 1);
        Due.is("two that may not", Due.forms(v, "ba", 100), 1);
        Due.is("two that may", Due.forms(v, "ca", 100), 2);
        Due.is("like ones", Due.forms(v, "cc", 100), 1);
        Due.is("ten like ones", Due.forms(v, "aaaaaaaaaa", 100), 1);
        Due.is("ten, the most there can be", Due.forms(Due.of("2"), "abcdefghab", 100), 3628800 / 4);
        Due.is("ten, six of them like ones", Due.forms(v, "cccccdcccd", 100), 45);
        Due.feed(v, new int[20]);
        Due.is("none", v.forms(0, 100), -1);
        Due.is("eleven", v.forms(11, 100), -1);
    }

    private static void firstForm() {
        Sentence.of("Terms", "the QUESTION at a place of the first of them (by letters).");
        // a and b may not change places; all others go where their letter stands.
        AskedValley v = Due.of(ROUND);
        String[] row = {"a", "ba", "ab", "ca", "cba", "hgfedcba", "abcabcabca", "cbaccbaccb", "hahbhahbha", "bbbbbaaaaa"};
        String[] first = {"a", "ba", "ab", "ac", "bac", "bacdefgh", "abababaccc", "bababccccc", "ababahhhhh", "bbbbbaaaaa"};
        for (int i = 0; i < row.length; i++) {
            for (int place = 0; place < row[i].length(); place++) {
                Due.is("of " + row[i] + " the place " + place, Due.forms(v, row[i], place), first[i].charAt(place) - 'a');
            }
        }
        // a with c, but b with neither: the b that stands between them keeps them as they were.
        v = Due.of("4;a:0>1=0,1>0=0,2>3=0,3>2=0;b:0>1=0,1>2=0,2>0=0;c:0>2=0,2>0=0,1>3=0,3>1=0");
        Due.is("a and c", v.changePlaces(0, 2), 1);
        Due.is("a and b", v.changePlaces(0, 1), 0);
        Due.is("b and c", v.changePlaces(1, 2), 0);
        row = new String[] {"ca", "cab", "bca", "cba", "cacbca", "dcbad"};
        first = new String[] {"ac", "acb", "bac", "cba", "accbac", "cbadd"};
        for (int i = 0; i < row.length; i++) {
            for (int place = 0; place < row[i].length(); place++) {
                Due.is("of " + row[i] + " the place " + place, Due.forms(v, row[i], place), first[i].charAt(place) - 'a');
            }
        }
    }

    private static void leads() {
        Sentence.of("Terms", "LEADS: the fewest QUESTIONS from a STATE to another one (the same: 0); the first (of like ones the least row).");
        AskedValley v = Due.of(CHAIN);
        for (int s = 0; s < 10; s++) {
            Due.is("the same", v.leads(s, s, 0), 0);
            Due.is("from 0", v.leads(0, s, 0), s);
            Due.is("to 9", v.leads(s, 9, 0), 9 - s);
            Due.is("back to 0", v.leads(s, 0, 0), s == 0 ? 0 : -2);
        }
        for (char q = 'a'; q <= 'h'; q++) {
            v = Due.of(CHAIN.replace('h', q));
            Due.is("by " + q, v.leads(0, 9, 0), 9);
            Due.is("by " + q, v.leads(0, 9, 1), q - 'a');
        }
        v = Due.of("4;c:0>1=0;a:0>2=0;b:0>1=0,1>3=0,2>3=0");
        Due.is("of like ones the least row", v.leads(0, 3, 1), 0);
        Due.is("of like ones the lowest", v.leads(0, 1, 1), 1);
    }

    private static void backs() {
        Sentence.of("Terms", "BACK: the fewest QUESTIONS by which one is back at a STATE if a QUESTION was asked there.");
        AskedValley v = Due.of("10;h:0>1=0,1>2=0,2>3=0,3>4=0,4>5=0,5>6=0,6>7=0,7>8=0,8>9=0,9>0=0");
        for (int s = 0; s < 10; s++) {
            Due.is("it stays", v.back(0, s), 0);
            Due.is("all round", v.back(7, s), 9);
        }
        Due.is("no way", Due.of(CHAIN).back(7, 0), -2);
    }

    private static void cheapest() {
        Sentence.of("Terms", "CHEAPEST: the least PRICES from a STATE to another one (the same: 0).");
        AskedValley v = Due.of(CHAIN);
        v.price(7, 99);
        for (int s = 0; s < 10; s++) {
            Due.is("the same", v.cheapest(s, s), 0);
            Due.is("the dearest", v.cheapest(0, s), 99 * s);
        }
        v.price(7, 0);
        Due.is("for nothing", v.cheapest(0, 9), 0);
        Due.is("no way", v.cheapest(9, 0), -2);
        v = Due.of("3;a:0>1=0,1>2=0;b:0>2=0");
        v.price(1, 3);
        Due.is("two for 2", v.cheapest(0, 2), 2);
        v.price(1, 2);
        Due.is("as cheap", v.cheapest(0, 2), 2);
        v.price(1, 1);
        Due.is("one for 1", v.cheapest(0, 2), 1);
    }

    private static void classes() {
        Sentence.of("Terms", "CLASSES: STATES that no row tells apart (by its ANSWERS): how many classes; those of a STATE's (bits).");
        AskedValley v = Due.of("10");
        Due.is("all alike", v.classes(100), 1);
        Due.is("all alike", v.classes(0), 1023);
        v = Due.of(CHAIN);
        Due.is("all unlike", v.classes(100), 10);
        for (int s = 0; s < 10; s++) {
            Due.is("alone", v.classes(s), 1 << s);
        }
        Due.valley(v, "10");
        Due.is("all alike in the next valley", v.classes(100), 1);
        v = Due.of("3;a:0>2=1,1>2=1");
        Due.is("two", v.classes(100), 2);
        Due.is("0 and 1", v.classes(1), 3);
        Due.is("2", v.classes(2), 4);
    }

    private static void parts() {
        Sentence.of("Terms", "PARTS: the fewest QUESTIONS of a row that tells two STATES apart; the first one (of like ones the least row).");
        AskedValley v = Due.of(CHAIN);
        for (int s = 0; s < 9; s++) {
            Due.is("the next one", v.parts(s, s + 1, 0), 9 - s);
            Due.is("the last one", v.parts(s, 9, 0), 1);
            Due.is("the same", v.parts(s, s, 0), -2);
        }
        v = Due.of("4;a:0>2=0,1>3=0;b:0>3=0,1>2=0;d:3>.=1");
        Due.is("two", v.parts(0, 1, 0), 2);
        Due.is("of like ones the least", v.parts(1, 0, 1), 0);
    }

    private static void known() {
        Sentence.of("Terms", "KNOWN: the fewest QUESTIONS of one row behind which THE STATE is the same whatever it was (ANSWERS aside); the STATE; "
                + "the first (of like ones the least row).");
        AskedValley v = Due.of("2;b:*>1=0;c:*>0=0");
        Due.is("one", v.known(0), 1);
        Due.is("the state behind the least row", v.known(1), 1);
        Due.is("the least row", v.known(2), 1);
        v = Due.of("10;a:0>1=0,1>2=0,2>3=0,3>4=0,4>5=0,5>6=0,6>7=0,7>8=0,8>9=0,9>0=0;b:9>0=0");
        for (int again = 0; again < 3; again++) {
            Due.is("(10 - 1) times itself", v.known(0), 81);
        }
        v = Due.of("2;a:0>1=1,1>0=2");
        for (int what = 0; what < 3; what++) {
            Due.is("answers aside", v.known(what), -2);
        }
        v = Due.of(CHAIN);
        Due.is("nine", v.known(0), 9);
        Due.is("the last", v.known(1), 9);
        Due.valley(v, "10");
        Due.is("none in the next valley", v.known(0), -2);
    }

    private static void plans() {
        Sentence.of("Terms", "A PLAN for some STATES that may be (bits): the fewest QUESTIONS at worst, each chosen by the ANSWERS ahead, "
                + "till THE STATE then is sure; the first (of like ones the lowest); -2: there is none.");
        AskedValley v = Due.of("4;a:0>.=1,1>.=1,2>.=2,3>.=2;b:0>.=1,1>.=2;c:2>.=1,3>.=2;d:1>.=3,2>.=3;e:0>.=7,1>.=8,2>.=9,3>.=9");
        for (int s = 0; s < 4; s++) {
            Due.is("one alone", v.plan(1 << s, 0), 0);
        }
        Due.is("two at worst", v.plan(15, 0), 2);
        Due.is("of like ones the lowest", v.plan(15, 1), 0);
        Due.is("one", v.plan(7, 0), 1);
        Due.is("the lowest that is enough", v.plan(7, 1), 1);
        v = Due.of("3;a:*>.=3;b:0>1=0,1>0=0");
        Due.is("none for 0 and 1", v.plan(3, 0), -2);
        Due.is("none for 0 and 1", v.plan(3, 1), -2);
        Due.is("none for all", v.plan(7, 0), -2);
        v = Due.of("10;a:0>1=0,1>2=0,2>3=0,3>4=0,4>5=0,5>6=0,6>7=0,7>8=0,8>9=0,9>0=0;b:9>0=0");
        for (int again = 0; again < 3; again++) {
            Due.is("the longest of a row", v.plan(1023, 0), 81);
        }
        v = Due.of(CHAIN);
        Due.is("all but one step at worst", v.plan(1023, 0), 9);
        Due.valley(v, "10");
        Due.is("none in the next valley", v.plan(1023, 0), -2);
        // One state alone is left by a question.
        for (int s = 0; s < 10; s++) {
            int other = (s + 1) % 10;
            v = Due.of("10;h:" + s + ">" + other + "=0");
            Due.is("from " + s, v.plan(1 << s | 1 << other, 0), 1);
        }
        // Groups of the least and of the greatest answer need one question more.
        for (int answer = 0; answer <= 9; answer++) {
            v = Due.of("3;a:0>.=" + (answer + 1) % 10 + ",1>.=" + answer + ",2>.=" + answer + ";b:1>.=7");
            Due.is("the answer " + answer, v.plan(7, 0), 2);
            Due.is("the answer " + answer, v.plan(7, 1), 0);
        }
    }

    private static void logged() {
        Sentence.of("Terms", "LOGGED are QUESTIONS with ANSWERS (1 to 20): STATES that may have been ahead of them (bits), that may be now; "
                + "the fewest ANSWERS that must be lies, if any STATE was (STATES change as asked all the same).");
        AskedValley v = Due.of(ROUND);
        int[] one = {0, 1};
        int[] due = {8, 1, 0};
        for (int what = 0; what < 3; what++) {
            Due.feed(v, one);
            Due.is("one", v.logged(1, what), due[what]);
        }
        // Twenty times a: its answer 1 comes five times, and here never.
        int[] twenty = {0, 0, 5};
        for (int what = 0; what < 3; what++) {
            Due.feed(v, new int[40]);
            Due.is("twenty", v.logged(20, what), twenty[what]);
        }
        Due.feed(v, new int[60]);
        Due.is("none", v.logged(0, 0), -1);
        Due.is("twenty-one", v.logged(21, 0), -1);
        int[] all = new int[40];
        for (int i = 0; i < 40; i += 2) {
            all[i] = 7;
            all[i + 1] = 9;
        }
        v.check(0, 0);
        Due.feed(v, all);
        Due.is("all lies", v.logged(20, 2), 20);
    }

    private static void next() {
        Sentence.of("Terms", "NEXT: of some STATES that may be the QUESTION by which the greatest group of one ANSWER is least (of like ones the lowest); how great.");
        AskedValley v = Due.of("10;h:0>0=0,1>0=1,2>0=2,3>0=3,4>0=4,5>0=5,6>0=6,7>0=7,8>0=8,9>0=9;g:0>.=1,1>.=2");
        Due.is("each an answer of its own", v.next(1023, 0), 7);
        Due.is("each an answer of its own", v.next(1023, 1), 1);
        Due.is("of like ones the lowest", v.next(7, 0), 6);
        Due.is("none tells anything", Due.of("10").next(1023, 0), 0);
        Due.is("none tells anything", Due.of("10").next(1023, 1), 10);
    }

    private static void odds() {
        Sentence.of("Terms", "ODDS: of STATES with weights (0 to 25 each, bytes) that the last ANSWER of a row is so: a fraction; -2: no weight.");
        AskedValley v = Due.of(ROUND);
        int[][] weights = {{25, 25, 25, 25}, {0, 0, 0, 25}, {1, 0, 0, 25}, {25, 0, 0, 1}, {0, 0, 0, 0}, {26, 1, 1, 1}, {1, 1, 1, 26}};
        int[] above = {1, 1, 25, 1, -2, -3, -3};
        int[] below = {4, 1, 26, 26, -2, -3, -3};
        for (int i = 0; i < weights.length; i++) {
            int[] w = weights[i];
            Due.feed(v, 0, w[0], w[1], w[2], w[3]);
            Due.is("above " + i, v.odds(1, 1, 0), above[i]);
            Due.feed(v, 0, w[0], w[1], w[2], w[3]);
            Due.is("below " + i, v.odds(1, 1, 1), below[i]);
        }
    }

    private static void turns() {
        Sentence.of("Terms", "TWO INSPECTORS by turns ask from a STATE");
        // All questions lead one state on; behind so many of them one has the answer 9: by turns, it is the one, then the other.
        for (int last = 0; last < 4; last++) {
            StringBuilder text = new StringBuilder("5");
            for (char q = 'a'; q <= 'h'; q++) {
                text.append(';').append(q).append(':');
                for (int s = 0; s <= last; s++) {
                    text.append(s == 0 ? "" : ",").append(s).append('>').append(s + 1).append('=').append(s == last ? 9 : 1);
                }
            }
            AskedValley v = Due.of(text.toString());
            for (int s = 0; s < 5; s++) {
                int many = s <= last ? last - s + 1 : 0;
                due(v, s, 9, many == 0 ? 0 : 2 - many % 2, many);
                // From the state that is told, whatever THE STATE is.
                v.state(4 - s);
                due(v, s, 9, many == 0 ? 0 : 2 - many % 2, many);
            }
        }
    }

    private static void inspectors() {
        Sentence.of("Terms", "each any of the eight QUESTIONS but the one asked just ahead (the first one any); who first has an ANSWER of just so much wins: "
                + "the one who begins wins (1), loses (2), neither can (0); in how many QUESTIONS, if both do their best (who wins soonest, who loses latest; 0: 0).");
        // Only a wins at 1, and all lead there: who asks a at 0 keeps the other from it.
        AskedValley v = Due.of("2;a:0>1=1,1>.=9;b:0>1=1;c:0>1=1;d:0>1=1;e:0>1=1;f:0>1=1;g:0>1=1;h:0>1=1");
        due(v, 0, 9, 1, 3);
        due(v, 1, 9, 1, 1);
        due(v, 1, 8, 0, 0);
        due(v, 0, 1, 1, 1);
        // Only h wins at 1: the last question is one of the eight, too.
        v = Due.of("2;a:0>1=1;b:0>1=1;c:0>1=1;d:0>1=1;e:0>1=1;f:0>1=1;g:0>1=1;h:0>1=1,1>.=9");
        due(v, 0, 9, 1, 3);
        // Two win at 1: whatever is asked at 0, the other has one of them.
        v = Due.of("2;a:0>1=1;b:0>1=1;c:0>1=1,1>.=9;d:0>1=1,1>.=9;e:0>1=1;f:0>1=1;g:0>1=1;h:0>1=1");
        due(v, 0, 9, 2, 2);
        due(v, 1, 9, 1, 1);
        // All lead one state down; at 0 all have the answer 0.
        StringBuilder down = new StringBuilder("5");
        for (char q = 'a'; q <= 'h'; q++) {
            down.append(';').append(q).append(":1>0=1,2>1=1,3>2=1,4>3=1");
        }
        v = Due.of(down.toString());
        for (int s = 0; s < 5; s++) {
            due(v, s, 0, s % 2 == 0 ? 1 : 2, s + 1);
        }
        // Of three states: from 2 to 0, where the other loses.
        v = Due.of("3;a:0>1=1,2>0=0,1>.=9;b:0>1=1,1>.=9;c:0>1=1;d:0>1=1;e:0>1=1;f:0>1=1;g:0>1=1;h:0>1=1");
        due(v, 2, 9, 1, 3);
    }

    private static void due(AskedValley v, int s, int answer, int who, int many) {
        Due.is("who from " + s + " for " + answer, v.inspectors(s, answer, 0), who);
        Due.is("in how many from " + s + " for " + answer, v.inspectors(s, answer, 1), many);
    }

    private static void together() {
        Sentence.of("Terms", "TOGETHER: of two QUESTIONS from a STATE: do both, one behind the other, either way have the ANSWERS that each alone would have");
        AskedValley v = Due.of("5;a:0>1=1,1>2=2,2>3=2,3>4=1;b:0>2=3,1>0=3,2>1=4,3>3=4,4>0=4;c:*>.=6");
        for (int s = 0; s < 5; s++) {
            for (int q = 0; q < 4; q++) {
                for (int r = 0; r < 4; r++) {
                    // What both answer, one behind the other, as a census would.
                    v.state(s);
                    boolean first = answers(v, q, r) == 10 * v.askedAt(q, s, 0) + v.askedAt(r, s, 0);
                    boolean second = answers(v, r, q) == 10 * v.askedAt(r, s, 0) + v.askedAt(q, s, 0);
                    Due.is("of " + q + " and " + r + " from " + s, v.together(q, r, s), (first ? 1 : 0) + (second ? 2 : 0));
                }
            }
        }
        // Where they lead does not matter, only what they answer: from 3 ab leaves 0 and ba 4.
        Due.is("from 0", v.together(0, 1, 0), 1);
        Due.is("from 1", v.together(0, 1, 1), 0);
        Due.is("from 3", v.together(0, 1, 3), 3);
    }

    /** What two questions answer, one behind the other, from THE STATE on. */
    private static int answers(AskedValley v, int q, int r) {
        String row = "" + (char) ('a' + q) + (char) ('a' + r);
        return 10 * Due.look(v, row, 0) + Due.look(v, row, 1);
    }

    private static void togetherBits() {
        Sentence.of("Terms", "(bits: 1 the first ahead of the second, 2 the other way)");
        AskedValley v = Due.of(ROUND);
        Due.is("neither", v.together(0, 1, 3), 0);
        Due.is("the first ahead", v.together(1, 0, 0), 1);
        Due.is("the other way", v.together(0, 1, 0), 2);
        Due.is("both", v.together(0, 7, 3), 3);
        Due.is("one with itself", v.together(0, 0, 2), 0);
        Due.is("one with itself", v.together(0, 0, 1), 3);
    }

    private static void loose() {
        Sentence.of("Terms", "LOOSE: STATES to which no QUESTION leads from another one (bits); ENDS: STATES that no QUESTION leaves (bits).");
        AskedValley v = Due.of("10;a:0>0=1");
        Due.is("all", v.alone(0), 1023);
        Due.is("all", v.alone(1), 1023);
        v = Due.of(CHAIN);
        Due.is("the first", v.alone(0), 1);
        Due.is("the last", v.alone(1), 512);
        v = Due.of(ROUND);
        Due.is("none", v.alone(0), 0);
        Due.is("none", v.alone(1), 0);
    }

    private static void kept() {
        Sentence.of("Terms", "KEPT: THE STATE, LAST ANSWER, LAST QUESTION, THE PURSE, ASKED, SUM, THE DAY, X; UNDONE: as they were KEPT last "
                + "(is there no such STATE now, 0; PRICES stay).");
        AskedValley v = Due.of("10;a:0>8=6,8>9=5");
        Due.law(v, "e1(q=0)");
        v.days(1);
        v.keep();
        v.days(1);
        String before = Due.all(v);
        Due.is("kept", v.keep(), 2);
        Due.census(v, "9b");
        v.purse(5);
        v.price(0, 50);
        v.days(7);
        v.seed(65535);
        v.state(3);
        Due.is("undone", v.undo(), true);
        Due.same("as they were kept last", before, Due.all(v));
        Due.is("prices stay", v.cheapest(8, 9), 50);
        Due.valley(v, "9");
        v.state(4);
        Due.is("undone", v.undo(), true);
        Due.is("no state 9", v.count(2), 0);
        Due.is("but the last answer", v.count(3), 5);
        Due.is("and the last question", v.count(4), 0);
        Due.valley(v, "10");
        Due.is("undone", v.undo(), true);
        Due.is("there it is again", v.count(2), 9);
    }

    private static void checked() {
        Sentence.of("Terms", "CHECK: ANSWERS of a QUESTION by STATES: right, or the first that is not so.");
        AskedValley v = Due.of("10;a:0>0=0,1>0=1,2>0=2,3>0=3,4>0=4,5>0=5,6>0=6,7>0=7,8>0=8,9>0=9");
        int[] bytes = {0, 1, 2, 3, 4, 5, 6, 7, 8, 9};
        Due.feed(v, bytes);
        Due.is("right", v.check(0, 10), -1);
        for (int i = 9; i >= 0; i--) {
            // Behind the first that is not so others are not either.
            bytes[i] = 10;
            Due.feed(v, bytes);
            Due.is("the first", v.check(0, 10), i);
        }
    }

    private static void ownMemory() {
        Sentence.of("Terms", "All memory is the valley's own. A call that is refused (NONE, false) changes nothing but the tape, where it is told.");
        AskedValley one = busy();
        AskedValley other = new AskedValley();
        Due.same("a new object beside a busy one", "0 0 0 0 8 999 0 0 0 0 1 ", Due.all(other));
        Due.is("nothing kept there", other.undo(), false);
        String before = all(busy());
        Due.valley(other, "2;h:*>1=9");
        Due.law(other, "e9(1=1)");
        other.price(0, 99);
        other.days(50);
        other.keep();
        Due.feed(other, "xyz");
        Due.same("a busy one beside another", before, all(one));
    }

    /** An object with a valley, a law, prices, days gone by, a state kept, and a valley's text on the tape. */
    private static AskedValley busy() {
        AskedValley v = Due.of("4;a:0>1=5,1>2=4,2>3=3,3>0=2;b:*>0=7;c:*>.=1");
        Due.law(v, "e9(q=w%3);e5(q=1);g4(a=7);x(q=2&w=2)");
        for (int q = 0; q < 8; q++) {
            v.price(q, 3 + q);
        }
        v.purse(500);
        v.seed(77);
        v.days(5);
        v.keep();
        v.days(3);
        Due.census(v, "2ab");
        v.state(2);
        Due.feed(v, "5;a:0>1=5,1>2=4;b:*>0=7;h:3>4=1");
        return v;
    }

    /** All that calls can tell of an object, till its tape is read and what was kept is undone. */
    private static String all(AskedValley v) {
        StringBuilder text = new StringBuilder(Due.all(v));
        for (int s = 0; s < v.count(1); s++) {
            for (int q = 0; q < 8; q++) {
                text.append(v.askedAt(q, s, 0)).append(v.askedAt(q, s, 1)).append(' ');
            }
            for (int t = 0; t < v.count(1); t++) {
                text.append(v.cheapest(s, t)).append(' ');
            }
        }
        for (int n = 1; n <= 5; n++) {
            for (int what = 0; what < 6; what++) {
                text.append(v.tried(n, what)).append(' ');
            }
        }
        text.append(v.undo()).append(' ').append(Due.all(v)).append(v.valley(31)).append(' ');
        for (int q = 0; q < 8; q++) {
            text.append(v.askedAt(q, 0, 0)).append(v.askedAt(q, 3, 1)).append(' ');
        }
        return text.toString();
    }

    private static long bit(boolean b) {
        return b ? 1 : 0;
    }

    private static void refuses(String call, ToLongFunction<AskedValley> asked, int due) {
        AskedValley v = busy();
        Due.is(call, asked.applyAsLong(v), due);
        Due.same(call, all(busy()), all(v));
    }

    private static void refused() {
        Sentence.of("Terms", "A call that is refused (NONE, false) changes nothing but the tape, where it is told.");
        int[] wrong = {-1, 1024, 65536, Integer.MAX_VALUE, Integer.MIN_VALUE};
        for (int x : wrong) {
            refuses("state", v -> bit(v.state(x)), 0);
            refuses("price", v -> bit(v.price(x, 1)), 0);
            refuses("price", v -> bit(v.price(1, x)), 0);
            refuses("purse", v -> bit(v.purse(x == 1024 ? 10000 : x)), 0);
            refuses("seed", v -> bit(v.seed(x == 1024 ? 65536 : x)), 0);
            refuses("law", v -> v.law(x), -1);
            refuses("valley", v -> v.valley(x), -1);
            refuses("census", v -> v.census(x), -1);
            refuses("look", v -> v.look(x, 100), -1);
            refuses("look", v -> v.look(1, x), -1);
            refuses("days", v -> v.days(x), -1);
            refuses("tried", v -> v.tried(x, 0), -1);
            refuses("tried", v -> v.tried(1, x), -1);
            refuses("forms", v -> v.forms(x, 100), -1);
            refuses("forms", v -> v.forms(1, x), -1);
            refuses("logged", v -> v.logged(x, 0), -1);
            refuses("logged", v -> v.logged(1, x), -1);
            refuses("odds", v -> v.odds(x, 0, 0), -1);
            refuses("odds", v -> v.odds(1, x, 0), -1);
            refuses("odds", v -> v.odds(1, 0, x), -1);
            refuses("check", v -> v.check(x, 0), -2);
            refuses("check", v -> v.check(0, x), -2);
            refuses("plan", v -> v.plan(x, 0), -1);
            refuses("next", v -> v.next(x, 0), -1);
            refuses("classes", v -> v.classes(x), -1);
            refuses("known", v -> v.known(x), -1);
            refuses("alone", v -> v.alone(x), -1);
            refuses("count", v -> v.count(x), -1);
            refuses("askedAt", v -> v.askedAt(x, 0, 0), -1);
            refuses("askedAt", v -> v.askedAt(0, x, 0), -1);
            refuses("changePlaces", v -> v.changePlaces(0, x), -1);
            refuses("leads", v -> v.leads(x, 0, 0), -1);
            refuses("leads", v -> v.leads(0, 1, x), -1);
            refuses("back", v -> v.back(0, x), -1);
            refuses("cheapest", v -> v.cheapest(0, x), -1);
            refuses("parts", v -> v.parts(x, 0, 0), -1);
            refuses("inspectors", v -> v.inspectors(0, x, 0), -1);
            refuses("together", v -> v.together(0, x, 0), -1);
        }
    }

    private static void none() {
        Sentence.of("Terms", "The constants: `NONE = -1`: There is none.");
        Due.is("NONE", AskedValley.NONE, -1);
    }
}
