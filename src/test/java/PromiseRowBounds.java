/** Promises 12 to 27: what is asked of states and rows: each bound, each refusal, and what the tape has then. */
final class PromiseRowBounds {
    /** a goes round and tells the last state; b goes back to 0 and tells if it was there. */
    private static final String ROUND = "4;a:0>1=0,1>2=0,2>3=0,3>0=1;b:0>0=1,*>0=0";
    private static final String CHAIN = "10;h:0>1=0,1>2=0,2>3=0,3>4=0,4>5=0,5>6=0,6>7=0,7>8=0,8>9=0,9>9=1";
    private static final int[] NO_QUESTION = {-1, 8, Integer.MAX_VALUE, Integer.MIN_VALUE};
    private static final int[] NO_STATE_OF_4 = {-1, 4, 9, 10, Integer.MAX_VALUE, Integer.MIN_VALUE};
    private static final int[] NO_WHAT_OF_2 = {-1, 2, 100, Integer.MAX_VALUE, Integer.MIN_VALUE};

    private PromiseRowBounds() {
    }

    static void run() {
        askedAt();
        askedAtRefused();
        changePlaces();
        changePlacesRefused();
        forms();
        formsAbove7();
        formsRefused();
        leads();
        leadsRefused();
        back();
        backRefused();
        cheapest();
        cheapestRefused();
        classes();
        classesRefused();
        parts();
        partsRefused();
        known();
        knownRefused();
        plan();
        planRefused();
        logged();
        loggedAbove();
        loggedRefused();
        next();
        nextRefused();
        odds();
        oddsAbove();
        oddsRefused();
        inspectors();
        inspectorsRefused();
        together();
        togetherRefused();
        alone();
        aloneRefused();
    }

    private static void askedAt() {
        Sentence.of("Promise 12", "Of a QUESTION (0 to 7) at a STATE, what 0 the ANSWER, 1 the STATE behind it");
        AskedValley v = Due.of("10;a:0>9=9,9>0=1;h:0>8=8,9>1=2");
        int[][] due = {{0, 0, 9, 9}, {0, 9, 1, 0}, {7, 0, 8, 8}, {7, 9, 2, 1}, {3, 5, 0, 5}};
        for (int[] each : due) {
            Due.is("answer", v.askedAt(each[0], each[1], 0), each[2]);
            Due.is("behind", v.askedAt(each[0], each[1], 1), each[3]);
        }
    }

    private static void askedAtRefused() {
        Sentence.of("Promise 12", "NONE: no such ones.");
        AskedValley v = Due.of(ROUND);
        for (int q : NO_QUESTION) {
            Due.is("question " + q, v.askedAt(q, 0, 0), -1);
            Due.is("question " + q, v.askedAt(q, 3, 1), -1);
        }
        for (int s : NO_STATE_OF_4) {
            Due.is("state " + s, v.askedAt(0, s, 0), -1);
            Due.is("state " + s, v.askedAt(7, s, 1), -1);
        }
        for (int what : NO_WHAT_OF_2) {
            Due.is("what " + what, v.askedAt(0, 0, what), -1);
        }
        Due.is("no valley", new AskedValley().askedAt(0, 0, 0), -1);
    }

    private static void changePlaces() {
        Sentence.of("Promise 13", "CHANGE PLACES of two QUESTIONS (0 to 7): 1, 0");
        AskedValley v = Due.of("2;a:0>1=0;h:1>0=0");
        Due.is("the first with the last", v.changePlaces(0, 7), 0);
        Due.is("the last with the first", v.changePlaces(7, 0), 0);
        for (int q = 1; q < 7; q++) {
            Due.is("with one that says nothing", v.changePlaces(0, q), 1);
            Due.is("with one that says nothing", v.changePlaces(q, 7), 1);
        }
    }

    private static void changePlacesRefused() {
        Sentence.of("Promise 13", "NONE: no such ones, no VALLEY.");
        AskedValley v = Due.of(ROUND);
        for (int q : NO_QUESTION) {
            Due.is("question " + q, v.changePlaces(q, 0), -1);
            Due.is("question " + q, v.changePlaces(7, q), -1);
            Due.is("with itself " + q, v.changePlaces(q, q), -1);
        }
        Due.is("no valley", new AskedValley().changePlaces(0, 0), -1);
        Due.is("no valley", new AskedValley().changePlaces(0, 1), -1);
    }

    private static void forms() {
        Sentence.of("Promise 14", "FORMS by the first n bytes of the tape (QUESTIONS 0 to 7; n 1 to 10; empty then), what 100 how many, "
                + "else the QUESTION at place what (0 to n - 1)");
        AskedValley v = Due.of(ROUND);
        Due.is("one", Due.forms(v, "h", 100), 1);
        Due.is("empty then", v.count(9), 0);
        Due.is("one", Due.forms(v, "h", 0), 7);
        Due.is("empty then", v.count(9), 0);
        Due.is("ten", Due.forms(v, "hhhhhhhhhc", 100), 10);
        String due = "bacdefghhh";
        for (int i = 0; i < 10; i++) {
            Due.is("ten: place " + i, Due.forms(v, "hhhgfedcba", i), due.charAt(i) - 'a');
        }
        Due.feed(v, 2, 1, 0, 255);
        Due.is("the first bytes alone", v.forms(3, 100), 3);
        Due.feed(v, 2, 1, 0, 255);
        Due.is("the first bytes alone", v.forms(2, 1), 2);
    }

    private static void formsAbove7() {
        Sentence.of("Promise 14", "-3: a byte above 7");
        AskedValley v = Due.of(ROUND);
        for (int i = 0; i < 10; i++) {
            int[] bytes = new int[10];
            bytes[i] = 7;
            Due.feed(v, bytes);
            Due.is("7 at " + i, v.forms(10, 100), 10);
            for (int wrong : new int[] {8, 97, 128, 255}) {
                bytes[i] = wrong;
                Due.feed(v, bytes);
                Due.is(wrong + " at " + i, v.forms(10, 100), -3);
                Due.is("empty then", v.count(9), 0);
                Due.feed(v, bytes);
                Due.is(wrong + " at " + i, v.forms(10, 0), -3);
                if (i > 0) {
                    Due.feed(v, bytes);
                    Due.is(wrong + " behind them", v.forms(i, 100), 1);
                }
            }
        }
    }

    private static void formsRefused() {
        Sentence.of("Promise 14", "NONE: no such ones, it has not so many (the tape stays), no VALLEY (it stays).");
        AskedValley v = Due.of(ROUND);
        for (int n = 1; n <= 10; n++) {
            Due.is("an empty tape", v.forms(n, 100), -1);
        }
        Due.feed(v, 8);
        for (int n : new int[] {0, -1, 11, 20, Integer.MAX_VALUE, Integer.MIN_VALUE}) {
            Due.is("n " + n, v.forms(n, 100), -1);
            Due.is("n " + n, v.forms(n, 0), -1);
        }
        for (int n = 1; n <= 10; n++) {
            for (int what : new int[] {-1, n, 99, 101, Integer.MAX_VALUE, Integer.MIN_VALUE}) {
                Due.is("what " + what + " of " + n, v.forms(n, what), -1);
            }
        }
        Due.is("the tape stays", v.count(9), 20);
        AskedValley none = new AskedValley();
        Due.feed(none, 8);
        Due.is("no valley", none.forms(1, 100), -1);
        Due.is("no valley", none.forms(2, 0), -1);
        Due.is("the tape stays", none.count(9), 20);
    }

    private static void leads() {
        Sentence.of("Promise 15", "LEADS from a STATE to a STATE, what 0 how many, 1 the first (none needed: -4); -2: no row does");
        AskedValley v = Due.of(CHAIN);
        Due.is("the farthest", v.leads(0, 9, 0), 9);
        Due.is("the first", v.leads(0, 9, 1), 7);
        Due.is("the next", v.leads(8, 9, 0), 1);
        for (int s = 0; s < 10; s++) {
            Due.is("none needed", v.leads(s, s, 0), 0);
            Due.is("none needed", v.leads(s, s, 1), -4);
        }
        Due.is("no row", v.leads(1, 0, 0), -2);
        Due.is("no row", v.leads(1, 0, 1), -2);
        Due.is("no row", v.leads(9, 8, 0), -2);
    }

    private static void leadsRefused() {
        Sentence.of("Promise 15", "NONE: no such ones.");
        AskedValley v = Due.of(ROUND);
        for (int s : NO_STATE_OF_4) {
            Due.is("from " + s, v.leads(s, 0, 0), -1);
            Due.is("to " + s, v.leads(0, s, 1), -1);
            Due.is("the same " + s, v.leads(s, s, 0), -1);
        }
        for (int what : NO_WHAT_OF_2) {
            Due.is("what " + what, v.leads(0, 1, what), -1);
            Due.is("what " + what, v.leads(0, 0, what), -1);
        }
        Due.is("no valley", new AskedValley().leads(0, 0, 0), -1);
        Due.is("no valley", new AskedValley().leads(0, 0, 1), -1);
    }

    private static void back() {
        Sentence.of("Promise 16", "BACK at a STATE after a QUESTION: how many; -2: no way");
        AskedValley v = Due.of(ROUND);
        Due.is("it stays", v.back(1, 0), 0);
        Due.is("it stays", v.back(7, 3), 0);
        Due.is("by b", v.back(0, 0), 1);
        Due.is("by three", v.back(0, 3), 3);
        Due.is("no way", Due.of(CHAIN).back(7, 8), -2);
        Due.is("it stays", Due.of(CHAIN).back(7, 9), 0);
    }

    private static void backRefused() {
        Sentence.of("Promise 16", "NONE: no such ones.");
        AskedValley v = Due.of(ROUND);
        for (int q : NO_QUESTION) {
            Due.is("question " + q, v.back(q, 0), -1);
        }
        for (int s : NO_STATE_OF_4) {
            Due.is("state " + s, v.back(0, s), -1);
        }
        Due.is("no valley", new AskedValley().back(0, 0), -1);
    }

    private static void cheapest() {
        Sentence.of("Promise 17", "CHEAPEST from a STATE to a STATE; -2: no row does");
        AskedValley v = Due.of(CHAIN);
        v.price(7, 99);
        Due.is("the dearest there is", v.cheapest(0, 9), 891);
        Due.is("the same", v.cheapest(9, 9), 0);
        v.price(7, 0);
        Due.is("for nothing", v.cheapest(0, 9), 0);
        Due.is("no row, though all is for nothing", v.cheapest(9, 8), -2);
    }

    private static void cheapestRefused() {
        Sentence.of("Promise 17", "NONE: no such ones.");
        AskedValley v = Due.of(ROUND);
        for (int s : NO_STATE_OF_4) {
            Due.is("from " + s, v.cheapest(s, 0), -1);
            Due.is("to " + s, v.cheapest(0, s), -1);
            Due.is("the same " + s, v.cheapest(s, s), -1);
        }
        Due.is("no valley", new AskedValley().cheapest(0, 0), -1);
    }

    private static void classes() {
        Sentence.of("Promise 18", "CLASSES, what 100 how many, else that of STATE what (bits)");
        AskedValley v = Due.of(CHAIN);
        Due.is("the most", v.classes(100), 10);
        Due.is("the first", v.classes(0), 1);
        Due.is("the last", v.classes(9), 512);
        v = Due.of("10;a:*>0=9");
        Due.is("the fewest", v.classes(100), 1);
        Due.is("all", v.classes(9), 1023);
        v = Due.of("2");
        Due.is("all", v.classes(1), 3);
    }

    private static void classesRefused() {
        Sentence.of("Promise 18", "NONE: no such ones, no VALLEY.");
        AskedValley v = Due.of(ROUND);
        for (int s : NO_STATE_OF_4) {
            Due.is("what " + s, v.classes(s), -1);
        }
        Due.is("what 99", v.classes(99), -1);
        Due.is("what 101", v.classes(101), -1);
        Due.is("no valley", new AskedValley().classes(100), -1);
        Due.is("no valley", new AskedValley().classes(0), -1);
    }

    private static void parts() {
        Sentence.of("Promise 19", "PARTS of two STATES, what 0 how many, 1 the first; -2: no row does");
        AskedValley v = Due.of(CHAIN);
        Due.is("the longest", v.parts(0, 1, 0), 9);
        Due.is("the longest", v.parts(1, 0, 0), 9);
        Due.is("the first", v.parts(0, 1, 1), 7);
        Due.is("the shortest", v.parts(9, 0, 0), 1);
        for (int s = 0; s < 10; s++) {
            Due.is("the same", v.parts(s, s, 0), -2);
            Due.is("the same", v.parts(s, s, 1), -2);
        }
        v = Due.of("10;h:*>3=4");
        Due.is("alike", v.parts(0, 9, 0), -2);
        Due.is("alike", v.parts(9, 0, 1), -2);
    }

    private static void partsRefused() {
        Sentence.of("Promise 19", "NONE: no such ones.");
        AskedValley v = Due.of(ROUND);
        for (int s : NO_STATE_OF_4) {
            Due.is("one " + s, v.parts(s, 0, 0), -1);
            Due.is("other " + s, v.parts(0, s, 1), -1);
            Due.is("both " + s, v.parts(s, s, 0), -1);
        }
        for (int what : NO_WHAT_OF_2) {
            Due.is("what " + what, v.parts(0, 1, what), -1);
            Due.is("what " + what, v.parts(0, 0, what), -1);
        }
        Due.is("no valley", new AskedValley().parts(0, 0, 0), -1);
        Due.is("no valley", new AskedValley().parts(0, 1, 0), -1);
    }

    private static void known() {
        Sentence.of("Promise 20", "KNOWN, what 0 how many, 1 THE STATE behind the least row, 2 the first QUESTION of it; -2: no row does");
        AskedValley v = Due.of("10;h:*>9=0;g:*>0=0");
        Due.is("the fewest", v.known(0), 1);
        Due.is("behind the least row", v.known(1), 0);
        Due.is("of the least row", v.known(2), 6);
        v = Due.of("10;h:*>9=0");
        Due.is("the greatest state", v.known(1), 9);
        Due.is("the last question", v.known(2), 7);
        v = Due.of("10");
        for (int what = 0; what < 3; what++) {
            Due.is("no row", v.known(what), -2);
        }
    }

    private static void knownRefused() {
        Sentence.of("Promise 20", "NONE: no such what, no VALLEY.");
        AskedValley v = Due.of(ROUND);
        for (int what : new int[] {-1, 3, 100, Integer.MAX_VALUE, Integer.MIN_VALUE}) {
            Due.is("what " + what, v.known(what), -1);
        }
        for (int what = 0; what < 3; what++) {
            Due.is("no valley", new AskedValley().known(what), -1);
        }
    }

    private static void plan() {
        Sentence.of("Promise 21", "A PLAN for some STATES (bits, at least one; none that there is not), what 0 how many, 1 the first (one alone: -4); -2: there is none");
        AskedValley v = Due.of("10;h:*>9=0");
        for (int s = 0; s < 10; s++) {
            Due.is("one alone", v.plan(1 << s, 0), 0);
            Due.is("one alone", v.plan(1 << s, 1), -4);
        }
        Due.is("all", v.plan(1023, 0), 1);
        Due.is("all", v.plan(1023, 1), 7);
        Due.is("none of them", v.plan(0, 0), -1);
        Due.is("one that there is not", v.plan(1024, 0), -1);
        Due.is("one that there is not among others", v.plan(1025, 0), -1);
        v = Due.of("10");
        Due.is("there is none", v.plan(513, 0), -2);
        Due.is("there is none", v.plan(513, 1), -2);
    }

    private static void planRefused() {
        Sentence.of("Promise 21", "NONE: no such ones.");
        for (int n = 2; n <= 10; n++) {
            AskedValley v = Due.of(String.valueOf(n));
            Due.is("all of " + n, v.plan((1 << n) - 1, 0), -2);
            for (int set : new int[] {0, -1, 1 << n, (1 << n) + 1, 1 << 31, 1 << 30, Integer.MAX_VALUE}) {
                Due.is("states " + set, v.plan(set, 0), -1);
                Due.is("states " + set, v.plan(set, 1), -1);
            }
            for (int what : NO_WHAT_OF_2) {
                Due.is("what " + what, v.plan(3, what), -1);
                Due.is("what " + what, v.plan(1, what), -1);
            }
        }
        Due.is("no valley", new AskedValley().plan(0, 0), -1);
        Due.is("no valley", new AskedValley().plan(1, 0), -1);
    }

    private static void logged() {
        Sentence.of("Promise 22", "LOGGED by the first 2 n bytes of the tape (QUESTION, ANSWER; n 1 to 20; empty then), what 0 STATES ahead, 1 STATES now (bits), 2 the fewest lies");
        AskedValley v = Due.of("10;a:9>8=9;h:0>9=1,8>0=9");
        int[] log = {0, 9, 7, 9};
        int[] one = {512, 256, 0};
        int[] two = {512, 1, 0};
        for (int what = 0; what < 3; what++) {
            Due.feed(v, log);
            Due.is("one: " + what, v.logged(1, what), one[what]);
            Due.is("empty then", v.count(9), 0);
            Due.feed(v, log);
            Due.is("two: " + what, v.logged(2, what), two[what]);
            Due.is("empty then", v.count(9), 0);
        }
        int[] all = {1023, 1023, 0};
        int[] twenty = new int[40];
        for (int i = 0; i < 40; i += 2) {
            twenty[i] = 1;
        }
        for (int what = 0; what < 3; what++) {
            Due.feed(v, twenty);
            Due.is("twenty: " + what, v.logged(20, what), all[what]);
        }
        twenty[39] = 9;
        int[] last = {0, 0, 1};
        for (int what = 0; what < 3; what++) {
            Due.feed(v, twenty);
            Due.is("the last a lie: " + what, v.logged(20, what), last[what]);
        }
    }

    private static void loggedAbove() {
        Sentence.of("Promise 22", "-3: a QUESTION above 7, an ANSWER above 9");
        for (int i = 0; i < 40; i++) {
            AskedValley v = Due.of(ROUND);
            int most = i % 2 == 0 ? 7 : 9;
            for (int wrong : new int[] {most, most + 1, 255}) {
                int[] log = new int[40];
                log[i] = wrong;
                Due.feed(v, log);
                Due.is(wrong + " at " + i, v.logged(20, 2) == -3, wrong > most);
                Due.is("empty then", v.count(9), 0);
            }
            int[] behind = new int[40];
            behind[i] = 255;
            if (i >= 2 && i < 20) {
                Due.feed(v, behind);
                Due.is("behind them", v.logged(i / 2, 2) == -3, false);
            }
        }
        AskedValley v = Due.of(ROUND);
        for (int what = 0; what < 3; what++) {
            Due.feed(v, 8, 0);
            Due.is("what " + what, v.logged(1, what), -3);
        }
    }

    private static void loggedRefused() {
        Sentence.of("Promise 22", "NONE: no such ones, it has not so many (the tape stays), no VALLEY (it stays).");
        AskedValley v = Due.of(ROUND);
        Due.is("an empty tape", v.logged(1, 0), -1);
        Due.feed(v, 255);
        for (int n : new int[] {0, -1, 11, 20, 21, Integer.MAX_VALUE, Integer.MIN_VALUE, 1 << 30, 1 << 31}) {
            Due.is("n " + n, v.logged(n, 0), -1);
        }
        for (int what : new int[] {-1, 3, 100, Integer.MAX_VALUE, Integer.MIN_VALUE}) {
            Due.is("what " + what, v.logged(1, what), -1);
        }
        Due.is("the tape stays", v.count(9), 20);
        Due.is("just enough", v.logged(10, 0), -3);
        Due.feed(v, new int[60]);
        Due.is("21 of 60 bytes", v.logged(21, 0), -1);
        Due.is("the tape stays", v.count(9), 60);
        Due.is("20 of 60 bytes", v.logged(20, 2), 5);
        Due.is("empty then", v.count(9), 0);
        Due.feed(v, new int[20]);
        Due.is("10 of 20 bytes", v.logged(10, 2), 2);
        AskedValley none = new AskedValley();
        Due.feed(none, 255);
        Due.is("no valley", none.logged(1, 0), -1);
        Due.is("the tape stays", none.count(9), 20);
    }

    private static void next() {
        Sentence.of("Promise 23", "NEXT for some STATES (bits, at least one), what 0 the QUESTION, 1 how great");
        AskedValley v = Due.of("10;h:0>0=0,1>0=1,2>0=2,3>0=3,4>0=4,5>0=5,6>0=6,7>0=7,8>0=8,9>0=9;c:9>.=1");
        for (int s = 0; s < 10; s++) {
            Due.is("one alone", v.next(1 << s, 0), 0);
            Due.is("one alone", v.next(1 << s, 1), 1);
        }
        Due.is("none of them", v.next(0, 0), -1);
        Due.is("two", v.next(513, 0), 2);
        Due.is("all", v.next(1023, 0), 7);
        Due.is("all", v.next(1023, 1), 1);
        Due.is("all alike", Due.of("10").next(1023, 1), 10);
    }

    private static void nextRefused() {
        Sentence.of("Promise 23", "NONE: no such ones.");
        for (int n = 2; n <= 10; n++) {
            AskedValley v = Due.of(String.valueOf(n));
            Due.is("all of " + n, v.next((1 << n) - 1, 1), n);
            for (int set : new int[] {0, -1, 1 << n, (1 << n) + 1, 1 << 31, 1 << 30, Integer.MAX_VALUE}) {
                Due.is("states " + set, v.next(set, 0), -1);
                Due.is("states " + set, v.next(set, 1), -1);
            }
            for (int what : NO_WHAT_OF_2) {
                Due.is("what " + what, v.next(1, what), -1);
            }
        }
        Due.is("no valley", new AskedValley().next(1, 0), -1);
        Due.is("no valley", new AskedValley().next(0, 0), -1);
    }

    private static void odds() {
        Sentence.of("Promise 24", "ODDS of a row of n QUESTIONS (1 to 20) by the first n bytes of the tape and weights of all STATES behind them (empty then), "
                + "that the last ANSWER is answer (0 to 9), what 0 above, 1 below the line (without a common divisor)");
        AskedValley v = Due.of("2;a:0>1=9,1>0=0");
        // By a the states change: behind an odd number of them 9 is the answer of state 0.
        int[][] weights = {{25, 25}, {25, 24}, {24, 12}, {0, 25}, {25, 0}, {1, 0}};
        int[][] nine = {{1, 2}, {25, 49}, {2, 3}, {0, 1}, {1, 1}, {1, 1}};
        int[][] nought = {{1, 2}, {24, 49}, {1, 3}, {1, 1}, {0, 1}, {0, 1}};
        for (int n : new int[] {1, 2, 19, 20}) {
            for (int i = 0; i < weights.length; i++) {
                for (int what = 0; what < 2; what++) {
                    boolean turned = n % 2 == 0;
                    Due.is("9 of " + n, odds(v, n, weights[i], 9, what), (turned ? nought : nine)[i][what]);
                    Due.is("0 of " + n, odds(v, n, weights[i], 0, what), (turned ? nine : nought)[i][what]);
                    Due.is("empty then", v.count(9), 0);
                }
            }
        }
        Due.is("an answer that no one has", odds(v, 1, new int[] {25, 25}, 5, 0), 0);
        Due.is("an answer that no one has", odds(v, 1, new int[] {25, 25}, 5, 1), 1);
        v = Due.of("10;h:0>0=1");
        Due.is("ten states", odds(v, 1, new int[] {25, 25, 25, 25, 25, 25, 25, 25, 25, 25}, 0, 0), 1);
        Due.is("all the weight there can be", odds(v, 1, new int[] {25, 25, 25, 25, 25, 25, 25, 25, 25, 24}, 0, 1), 1);
    }

    /** Odds of n times a. */
    private static int odds(AskedValley v, int n, int[] weights, int answer, int what) {
        int[] bytes = new int[n + weights.length];
        System.arraycopy(weights, 0, bytes, n, weights.length);
        Due.feed(v, bytes);
        return v.odds(n, answer, what);
    }

    private static void oddsAbove() {
        Sentence.of("Promise 24", "-3: a QUESTION above 7, a weight above 25; -2 as above (behind -3)");
        AskedValley v = Due.of(ROUND);
        for (int i = 0; i < 7; i++) {
            int most = i < 3 ? 7 : 25;
            int[] bytes = {0, 0, 0, 1, 1, 1, 1, 255, 255};
            for (int each : new int[] {most, most + 1, 255}) {
                bytes[i] = each;
                Due.feed(v, bytes);
                Due.is(each + " at " + i, v.odds(3, 0, 0) == -3, each > most);
                Due.is("empty then", v.count(9), 0);
            }
        }
        for (int what = 0; what < 2; what++) {
            Due.feed(v, 7, 0, 0, 0, 0);
            Due.is("no weight", v.odds(1, 0, what), -2);
            Due.is("empty then", v.count(9), 0);
            Due.feed(v, 8, 0, 0, 0, 0);
            Due.is("no weight and a question above 7", v.odds(1, 0, what), -3);
            Due.feed(v, 0, 0, 0, 0, 26);
            Due.is("a weight above 25 alone", v.odds(1, 0, what), -3);
            Due.feed(v, 0, 0, 0, 0, 0, 1);
            Due.is("a weight behind the states is none", v.odds(1, 0, what), -2);
        }
    }

    private static void oddsRefused() {
        Sentence.of("Promise 24", "NONE: no such ones, it has not so many (the tape stays), no VALLEY (it stays).");
        for (int n = 2; n <= 10; n++) {
            AskedValley v = Due.of(String.valueOf(n));
            Due.is("an empty tape", v.odds(1, 0, 0), -1);
            Due.feed(v, new int[20]);
            Due.is("one too few for " + n, v.odds(21 - n, 0, 0), -1);
            Due.is("the tape stays", v.count(9), 20);
            Due.is("just enough for " + n, v.odds(20 - n, 0, 0), -2);
            Due.is("empty then", v.count(9), 0);
            Due.feed(v, new int[40]);
            for (int no : new int[] {0, -1, 21, Integer.MAX_VALUE, Integer.MIN_VALUE}) {
                Due.is("n " + no, v.odds(no, 0, 0), -1);
            }
            for (int no : new int[] {-1, 10, 100, Integer.MAX_VALUE, Integer.MIN_VALUE}) {
                Due.is("answer " + no, v.odds(1, no, 0), -1);
            }
            for (int no : NO_WHAT_OF_2) {
                Due.is("what " + no, v.odds(1, 0, no), -1);
            }
            Due.is("the tape stays", v.count(9), 40);
            Due.is("20 of 40 bytes", v.odds(20, 9, 1), -2);
        }
        AskedValley none = new AskedValley();
        Due.feed(none, 255, 255, 255);
        Due.is("no valley", none.odds(1, 0, 0), -1);
        Due.is("the tape stays", none.count(9), 20);
    }

    private static void inspectors() {
        Sentence.of("Promise 25", "TWO INSPECTORS from a STATE for an ANSWER (0 to 9), what 0 who, 1 in how many");
        AskedValley v = Due.of("10;a:9>0=9;h:0>0=0");
        Due.is("the greatest answer at the greatest state", v.inspectors(9, 9, 0), 1);
        Due.is("the greatest answer at the greatest state", v.inspectors(9, 9, 1), 1);
        Due.is("the least answer at the least state", v.inspectors(0, 0, 0), 1);
        Due.is("the least answer at the least state", v.inspectors(0, 0, 1), 1);
        Due.is("neither", v.inspectors(0, 9, 0), 0);
        Due.is("neither", v.inspectors(0, 9, 1), 0);
        v = Due.of("2;a:0>1=1;b:0>1=1;c:0>1=1,1>.=9;d:0>1=1,1>.=9;e:0>1=1;f:0>1=1;g:0>1=1;h:0>1=1");
        Due.is("who begins loses", v.inspectors(0, 9, 0), 2);
        Due.is("in two", v.inspectors(0, 9, 1), 2);
    }

    private static void inspectorsRefused() {
        Sentence.of("Promise 25", "NONE: no such ones.");
        AskedValley v = Due.of(ROUND);
        for (int s : NO_STATE_OF_4) {
            Due.is("state " + s, v.inspectors(s, 0, 0), -1);
            Due.is("state " + s, v.inspectors(s, 0, 1), -1);
        }
        for (int answer : new int[] {-1, 10, 100, Integer.MAX_VALUE, Integer.MIN_VALUE}) {
            Due.is("answer " + answer, v.inspectors(0, answer, 0), -1);
            Due.is("answer " + answer, v.inspectors(0, answer, 1), -1);
        }
        for (int what : NO_WHAT_OF_2) {
            Due.is("what " + what, v.inspectors(0, 0, what), -1);
        }
        Due.is("no valley", new AskedValley().inspectors(0, 0, 0), -1);
    }

    private static void together() {
        Sentence.of("Promise 26", "TOGETHER of two QUESTIONS (0 to 7) from a STATE: 0 to 3");
        AskedValley v = Due.of("10;a:9>0=1;h:9>1=2,0>.=2");
        Due.is("h behind a alone", v.together(0, 7, 9), 1);
        Due.is("h behind a alone", v.together(7, 0, 9), 2);
        Due.is("neither", v.together(0, 0, 9), 0);
        Due.is("both", v.together(3, 4, 9), 3);
        Due.is("both", v.together(0, 7, 0), 3);
    }

    private static void togetherRefused() {
        Sentence.of("Promise 26", "NONE: no such ones.");
        AskedValley v = Due.of(ROUND);
        for (int q : NO_QUESTION) {
            Due.is("question " + q, v.together(q, 0, 0), -1);
            Due.is("question " + q, v.together(7, q, 3), -1);
            Due.is("both " + q, v.together(q, q, 0), -1);
        }
        for (int s : NO_STATE_OF_4) {
            Due.is("state " + s, v.together(0, 0, s), -1);
        }
        Due.is("no valley", new AskedValley().together(0, 0, 0), -1);
    }

    private static void alone() {
        Sentence.of("Promise 27", "What 0 LOOSE, 1 ENDS (bits)");
        AskedValley v = Due.of("10;a:9>0=0,0>0=0");
        Due.is("loose", v.alone(0), 1022);
        Due.is("ends", v.alone(1), 511);
        v = Due.of("10;h:0>9=0");
        Due.is("loose", v.alone(0), 511);
        Due.is("ends", v.alone(1), 1022);
    }

    private static void aloneRefused() {
        Sentence.of("Promise 27", "NONE: no such what, no VALLEY.");
        AskedValley v = Due.of(ROUND);
        for (int what : NO_WHAT_OF_2) {
            Due.is("what " + what, v.alone(what), -1);
        }
        Due.is("no valley", new AskedValley().alone(0), -1);
        Due.is("no valley", new AskedValley().alone(1), -1);
    }
}
