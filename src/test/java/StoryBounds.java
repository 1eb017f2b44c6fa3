/** What it is: each of the things that the document's first words name, shown once. */
final class StoryBounds {
    /** a goes round and tells the last state; b goes back to 0 and tells if it was there. */
    private static final String ROUND = "4;a:0>1=0,1>2=0,2>3=0,3>0=1;b:0>0=1,*>0=0";
    private static final String STORY = "What it is";
    private static final int MOST_CALLS = 512;

    private StoryBounds() {
    }

    static void run() {
        other();
        texts();
        inspector();
        rows();
        ways();
        apart();
        sure();
        logs();
        games();
        kept();
        calls();
        laterCalls();
    }

    private static void other() {
        Sentence.of(STORY, "Counted, they are other: a valley whose people change by being asked");
        AskedValley v = Due.of(ROUND);
        int[] answer = {0, 0, 0, 1};
        for (int i = 0; i < 4; i++) {
            Due.is("looked at, nothing changes", Due.look(v, "a", 101), (i + 1) % 4);
            Due.is("the state", v.count(2), i);
            Due.is("the same question has another answer", Due.census(v, "a"), answer[i]);
            Due.is("they are other", v.count(2), (i + 1) % 4);
        }
    }

    private static void texts() {
        Sentence.of(STORY, "the valley told as a text of states and of questions that answer and change them");
        AskedValley v = new AskedValley();
        Due.is("states", Due.valley(v, "3;c:0>2=7,2>.=8"), 3);
        int[][] due = {{7, 2}, {0, 1}, {8, 2}};
        for (int s = 0; s < 3; s++) {
            Due.is("answer", v.askedAt(2, s, 0), due[s][0]);
            Due.is("change", v.askedAt(2, s, 1), due[s][1]);
        }
        Sentence.of(STORY, "censuses as rows of questions in a language with rounds");
        v = Due.of("10;a:0>1=1,1>2=2,2>3=3,3>4=4,4>5=5,5>6=6,6>7=7,7>8=8,8>9=9;b:*>.=0");
        Due.is("how many", Due.look(v, "2(a2(ab))3b", 103), 13);
        String row = "1203045060000";
        for (int i = 0; i < row.length(); i++) {
            Due.is("the answer " + i, Due.look(v, "2(a2(ab))3b", i), row.charAt(i) - '0');
        }
    }

    private static void inspector() {
        Sentence.of(STORY, "an inspector day by day by a law as a text of what he likes to ask, what is refused, with drawn numbers");
        AskedValley v = Due.of("2;a:*>.=1;b:*>.=2;c:*>.=3;d:*>.=4;e:*>.=5;f:*>.=6;g:*>.=7;h:*>.=8");
        // He likes the last ones most; those beyond the draw are refused.
        Due.is("law", Due.law(v, "e1+q(1=1);x(q>w)"), 2);
        for (int day = 1; day <= 60; day++) {
            Due.is("a question", v.days(1), 1);
            int draw = v.count(10) % 10;
            Due.is("by the draw", v.count(4), Math.min(draw, 7));
            Due.is("its answer", v.count(3), Math.min(draw, 7) + 1);
            Due.is("the day", v.count(0), day);
        }
    }

    private static void rows() {
        AskedValley v = Due.of(ROUND);
        Sentence.of(STORY, "what a row answers and leaves");
        Due.is("answers", Due.look(v, "4ab", 3), 1);
        Due.is("answers", Due.look(v, "3ab", 3), 0);
        Due.is("leaves", Due.look(v, "4aa", 101), 1);
        Due.is("leaves", Due.look(v, "4ab", 101), 0);
        Sentence.of(STORY, "which two questions may change places");
        Due.is("a and b", v.changePlaces(0, 1), 0);
        Due.is("a and c", v.changePlaces(0, 2), 1);
        Sentence.of(STORY, "how many rows are as good as one and the first of them");
        Due.is("how many", Due.forms(v, "cba", 100), 3);
        String first = "bac";
        for (int i = 0; i < 3; i++) {
            Due.is("the first of them", Due.forms(v, "cba", i), first.charAt(i) - 'a');
        }
        for (String row : new String[] {"cba", "bca", "bac"}) {
            for (int s = 0; s < 4; s++) {
                v.state(s);
                Due.is("as good: what " + row + " leaves", Due.look(v, row, 101), 1);
                Due.is("as good: what " + row + " answers", Due.look(v, row, 102), s == 0 ? 1 : 0);
            }
        }
    }

    private static void ways() {
        AskedValley v = Due.of(ROUND);
        Sentence.of(STORY, "the shortest row to a state");
        for (int s = 0; s < 4; s++) {
            for (int t = 0; t < 4; t++) {
                int at = s;
                int many = v.leads(s, t, 0);
                for (int i = 0; i < many; i++) {
                    at = v.askedAt(v.leads(at, t, 1), at, 1);
                }
                Due.is("it leads there", at, t);
                Due.is("none is needed then", v.leads(at, t, 1), -4);
                Due.is("how many", many, Math.min((t - s + 4) % 4, t + 1));
            }
        }
        Sentence.of(STORY, "back from a question");
        Due.is("back from a", v.back(0, 0), 1);
        Due.is("back from a", v.back(0, 3), 3);
        Due.is("back from b", v.back(1, 2), 2);
        Due.is("back from b", v.back(1, 0), 0);
        Sentence.of(STORY, "the cheapest way");
        v = Due.of("3;a:0>1=0,1>2=0;b:0>2=0");
        v.price(1, 3);
        Due.is("the shortest", v.leads(0, 2, 0), 1);
        Due.is("the cheapest", v.cheapest(0, 2), 2);
    }

    private static void apart() {
        AskedValley v = Due.of("4;a:0>2=1,1>3=1,2>.=2,3>.=2;b:2>.=5,3>.=5");
        Sentence.of(STORY, "states that no row tells apart");
        Due.is("classes", v.classes(100), 2);
        Due.is("0 and 1", v.classes(0), 3);
        Due.is("2 and 3", v.classes(3), 12);
        Due.is("no row", v.parts(0, 1, 0), -2);
        Sentence.of(STORY, "the shortest row that does");
        v = Due.of(ROUND);
        Due.is("0 and 1", v.parts(0, 1, 0), 1);
        Due.is("0 and 1: b", v.parts(0, 1, 1), 1);
        Due.is("1 and 2", v.parts(1, 2, 0), 2);
        Due.is("1 and 2: aa", v.parts(1, 2, 1), 0);
    }

    private static void sure() {
        Sentence.of(STORY, "a row behind which the state is known whatever it was");
        AskedValley v = Due.of("4;a:0>1=0,1>2=0,2>3=0,3>0=1;b:3>0=0");
        Due.is("how many", v.known(0), 9);
        for (int s = 0; s < 4; s++) {
            v.state(s);
            Due.is("the state behind it, from " + s, Due.look(v, "2(b3a)b", 101), v.known(1));
        }
        Due.is("its first", v.known(2), 1);
        Sentence.of(STORY, "a plan that minds answers");
        Due.is("how many", v.plan(15, 0), 3);
        v = Due.of("2;a:0>1=1,1>0=2");
        Due.is("no row", v.known(0), -2);
        Due.is("but a plan", v.plan(3, 0), 1);
    }

    private static void logs() {
        AskedValley v = Due.of(ROUND);
        Sentence.of(STORY, "states that fit what was logged");
        Due.feed(v, 0, 0, 0, 1);
        Due.is("ahead", v.logged(2, 0), 4);
        Due.feed(v, 0, 0, 0, 1);
        Due.is("now", v.logged(2, 1), 1);
        Sentence.of(STORY, "the fewest who lied");
        Due.feed(v, 0, 0, 0, 1);
        Due.is("none", v.logged(2, 2), 0);
        Due.feed(v, 0, 1, 0, 1);
        Due.is("one", v.logged(2, 2), 1);
        Sentence.of(STORY, "the next question");
        Due.is("of 0 and 1: b", v.next(3, 0), 1);
        Due.is("of 2 and 3: a", v.next(12, 0), 0);
        Sentence.of(STORY, "odds of an answer");
        Due.feed(v, 0, 3, 2, 1, 4);
        Due.is("above", v.odds(1, 1, 0), 2);
        Due.feed(v, 0, 3, 2, 1, 4);
        Due.is("below", v.odds(1, 1, 1), 5);
    }

    private static void games() {
        Sentence.of(STORY, "two inspectors by turns");
        AskedValley v = Due.of("2;a:0>1=1;b:0>1=1;c:0>1=1,1>.=9;d:0>1=1,1>.=9;e:0>1=1;f:0>1=1;g:0>1=1;h:0>1=1");
        Due.is("the other has it", v.inspectors(0, 9, 0), 2);
        Due.is("who begins has it", v.inspectors(1, 9, 0), 1);
        Due.is("neither", v.inspectors(1, 8, 0), 0);
        Sentence.of(STORY, "numbers that can be had together");
        v = Due.of(ROUND);
        Due.is("b, then a", v.together(1, 0, 0), 1);
        Due.is("both ways", v.together(0, 1, 1), 3);
        Due.is("neither", v.together(0, 1, 3), 0);
    }

    private static void kept() {
        Sentence.of(STORY, "kept and undone");
        AskedValley v = Due.of(ROUND);
        Due.law(v, "e1(q=0)");
        v.days(3);
        String before = Due.all(v);
        v.keep();
        v.days(5);
        Due.census(v, "ab");
        Due.is("undone", v.undo(), true);
        Due.same("as it was", before, Due.all(v));
    }

    private static void calls() {
        Sentence.of(STORY, "An object is used for at most 512 calls after it has been made");
        AskedValley v = new AskedValley();
        Due.is("the first call", v.feed(0x323b613a, 0x303e313d, 0x372c2a3e, 0x303d3800, 0), 20);
        Due.is("the second", v.valley(15), 2);
        for (int call = 3; call < MOST_CALLS; call += 2) {
            int turn = call / 2;
            Due.is("the call " + call, v.feed(0x61000000, 0, 0, 0, 0), 20);
            Due.is("the call " + (call + 1), v.census(1), turn % 2 == 1 ? 7 : 8);
        }
    }

    /** What they answer is free, but they end, and leave other objects alone. */
    private static void laterCalls() {
        Sentence.of(STORY, "what later calls answer is free");
        AskedValley beside = Due.of(ROUND);
        String before = Due.all(beside);
        AskedValley v = Due.of(ROUND);
        Due.law(v, "e1(1=1);g1(1=1)");
        for (int call = 0; call < 3 * MOST_CALLS; call += 4) {
            v.days(100);
            v.feed(call, call, call, call, call);
            v.plan(15, 0);
            v.known(0);
        }
        Due.same("another object", before, Due.all(beside));
    }
}
