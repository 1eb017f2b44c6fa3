/** Promises 9 and 12 to 27 and 31: what is asked of rows and states, by valleys whose answers are plain to see. */
public final class RowsTest {
    /** a goes round and tells the last state; b goes back to 0 and tells if it was there. */
    private static final String ROUND = "4;a:0>1=0,1>2=0,2>3=0,3>0=1;b:0>0=1,*>0=0";

    public static void main(String[] args) {
        looks();
        places();
        forms();
        leads();
        backs();
        cheapest();
        classes();
        parts();
        known();
        plans();
        logs();
        nexts();
        odds();
        inspectors();
        together();
        alone();
        checks();
        Due.end();
    }

    private static void looks() {
        AskedValley v = Due.of("5;a:0>1=1,1>2=2,2>3=3,3>4=4,4>0=5");
        v.state(2);
        String before = Due.all(v);
        Due.is("last answer", Due.look(v, "2a", 100), 4);
        Due.is("state", Due.look(v, "2a", 101), 4);
        Due.is("answers", Due.look(v, "2a", 102), 7);
        Due.is("questions", Due.look(v, "2a", 103), 2);
        Due.is("states", Due.look(v, "2a", 104), 4 + 8 + 16);
        Due.is("states, those that stay", Due.look(v, "b", 104), 4);
        Due.is("place", Due.look(v, "2a", 0), 3);
        Due.is("place", Due.look(v, "2a", 1), 4);
        Due.is("no such place", Due.look(v, "2a", 2), -4);
        Due.is("place", Due.look(v, "5(8a)", 39), 2);
        Due.is("no such place", Due.look(v, "4(8a)", 39), -4);
        Due.is("rounds", Due.look(v, "2(a2(ab))", 103), 10);
        Due.is("rounds", Due.look(v, "2(a2(ab))", 102), 3 + 4 + 5 + 1 + 2 + 3);
        Due.same("looked", before, Due.all(v));
        int[] no = {-1, 40, 99, 105, Integer.MAX_VALUE, Integer.MIN_VALUE};
        Due.feed(v, "2a");
        for (int what : no) {
            Due.is("look " + what, v.look(2, what), -1);
        }
        Due.is("look", v.look(0, 100), -1);
        Due.is("look", v.look(61, 100), -1);
        Due.is("bytes", v.count(9), 20);
        // A wrong what is refused ahead of the text's fault, a missing place behind it.
        Due.is("fault", v.look(1, 5), -1001);
        Due.is("bytes", v.count(9), 0);
    }

    private static void places() {
        AskedValley v = Due.of(ROUND);
        Due.is("with itself", v.changePlaces(0, 0), 1);
        Due.is("with itself", v.changePlaces(1, 1), 1);
        Due.is("states differ", v.changePlaces(0, 1), 0);
        Due.is("what says nothing", v.changePlaces(0, 7), 1);
        Due.is("what says nothing", v.changePlaces(7, 1), 1);
        v = Due.of("4;a:0>1=0,1>0=0,2>3=0,3>2=0;b:0>2=0,2>0=0,1>3=0,3>1=0;c:*>.=3;d:0>.=1");
        Due.is("both change", v.changePlaces(0, 1), 1);
        Due.is("always the same answer", v.changePlaces(0, 2), 1);
        Due.is("an answer differs", v.changePlaces(0, 3), 0);
        Due.is("an answer differs", v.changePlaces(3, 0), 0);
        Due.is("none changes", v.changePlaces(2, 3), 1);
        int[] no = {-1, 8, Integer.MAX_VALUE, Integer.MIN_VALUE};
        for (int q : no) {
            Due.is("changePlaces " + q, v.changePlaces(q, 0), -1);
            Due.is("changePlaces " + q, v.changePlaces(0, q), -1);
            Due.is("changePlaces " + q, v.changePlaces(q, q), -1);
        }
        Due.is("changePlaces without a valley", new AskedValley().changePlaces(0, 0), -1);
    }

    private static void forms() {
        // a and b may not change places; all else may.
        AskedValley v = Due.of(ROUND);
        Due.is("forms", Due.forms(v, "ab", 100), 1);
        Due.is("forms", Due.forms(v, "ac", 100), 2);
        Due.is("forms", Due.forms(v, "cab", 100), 3);
        Due.is("forms", Due.forms(v, "cabc", 100), 6);
        String due = "badeh";
        String sorted = "baadehh";
        for (int i = 0; i < due.length(); i++) {
            Due.is("form", Due.forms(v, "hedba", i), due.charAt(i) - 'a');
        }
        for (int i = 0; i < sorted.length(); i++) {
            Due.is("form", Due.forms(v, "hhedbaa", i), sorted.charAt(i) - 'a');
        }
        Due.is("forms", Due.forms(v, "hhedbaa", 100), 7 * 6 * 5 * 4 / 2);
        Due.is("most", Due.forms(v, "cdefghcdca", 100), 3628800 / 6 / 2);
        Due.is("one", Due.forms(v, "aaaaaaaaaa", 100), 1);
        Due.is("one", Due.forms(v, "h", 0), 7);
        Due.is("one", Due.forms(v, "h", 100), 1);
        Due.feed(v, 0, 1, 8);
        Due.is("a byte above 7", v.forms(3, 2), -3);
        Due.is("bytes", v.count(9), 0);
        Due.feed(v, 0, 255);
        Due.is("a byte above 7", v.forms(2, 100), -3);
        Due.feed(v, 0, 7, 8);
        int[] no = {-1, 2, 99, 101, Integer.MAX_VALUE, Integer.MIN_VALUE};
        for (int what : no) {
            Due.is("forms what " + what, v.forms(2, what), -1);
        }
        int[] none = {0, -1, 11, Integer.MAX_VALUE, Integer.MIN_VALUE};
        for (int n : none) {
            Due.is("forms " + n, v.forms(n, 100), -1);
        }
        Due.is("bytes", v.count(9), 20);
        Due.is("beyond those n nothing matters", v.forms(2, 100), 2);
        Due.is("too few", v.forms(1, 100), -1);
        AskedValley none2 = new AskedValley();
        Due.feed(none2, 9);
        Due.is("without a valley", none2.forms(1, 100), -1);
        Due.is("bytes", none2.count(9), 20);
    }

    private static void leads() {
        AskedValley v = Due.of("5;a:0>1=0,1>2=0;b:0>1=0,2>3=0;c:0>3=0,3>4=0,1>3=0");
        Due.is("the same", v.leads(2, 2, 0), 0);
        Due.is("the same", v.leads(2, 2, 1), -4);
        Due.is("one", v.leads(0, 1, 0), 1);
        Due.is("the least", v.leads(0, 1, 1), 0);
        Due.is("two", v.leads(0, 4, 0), 2);
        Due.is("c", v.leads(0, 4, 1), 2);
        Due.is("two", v.leads(0, 2, 0), 2);
        Due.is("a", v.leads(0, 2, 1), 0);
        Due.is("two", v.leads(2, 4, 0), 2);
        Due.is("b", v.leads(2, 4, 1), 1);
        Due.is("none", v.leads(4, 0, 0), -2);
        Due.is("none", v.leads(4, 0, 1), -2);
        int[] no = {-1, 5, Integer.MAX_VALUE, Integer.MIN_VALUE};
        for (int s : no) {
            Due.is("leads from " + s, v.leads(s, 0, 0), -1);
            Due.is("leads to " + s, v.leads(0, s, 0), -1);
            Due.is("leads what " + s, v.leads(0, 0, s), -1);
        }
        Due.is("leads what 2", v.leads(0, 0, 2), -1);
        Due.is("leads without a valley", new AskedValley().leads(0, 0, 0), -1);
        v = Due.of("10;h:0>1=0,1>2=0,2>3=0,3>4=0,4>5=0,5>6=0,6>7=0,7>8=0,8>9=0");
        Due.is("the farthest", v.leads(0, 9, 0), 9);
        Due.is("h", v.leads(0, 9, 1), 7);
    }

    private static void backs() {
        AskedValley v = Due.of("4;a:0>1=0,1>2=0,2>0=0;b:1>3=0,2>1=0");
        Due.is("stays", v.back(7, 0), 0);
        Due.is("round", v.back(0, 0), 2);
        Due.is("and back", v.back(0, 1), 1);
        Due.is("no way", v.back(1, 1), -2);
        int[] no = {-1, 8, Integer.MAX_VALUE, Integer.MIN_VALUE};
        for (int q : no) {
            Due.is("back " + q, v.back(q, 0), -1);
            Due.is("back at " + q, v.back(0, q), -1);
        }
        Due.is("back at 4", v.back(0, 4), -1);
        Due.is("back without a valley", new AskedValley().back(0, 0), -1);
    }

    private static void cheapest() {
        AskedValley v = Due.of("4;a:0>1=0,1>2=0,2>3=0;b:0>3=0;c:0>2=0");
        Due.is("at first", v.cheapest(0, 3), 1);
        v.price(0, 10);
        v.price(1, 31);
        v.price(2, 21);
        Due.is("by a", v.cheapest(0, 3), 30);
        v.price(2, 19);
        Due.is("by c and a", v.cheapest(0, 3), 29);
        v.price(1, 28);
        Due.is("by b", v.cheapest(0, 3), 28);
        v.price(0, 0);
        Due.is("for nothing", v.cheapest(0, 3), 0);
        Due.is("the same", v.cheapest(3, 3), 0);
        Due.is("no way", v.cheapest(3, 0), -2);
        int[] no = {-1, 4, Integer.MAX_VALUE, Integer.MIN_VALUE};
        for (int s : no) {
            Due.is("cheapest from " + s, v.cheapest(s, 0), -1);
            Due.is("cheapest to " + s, v.cheapest(0, s), -1);
        }
        Due.is("cheapest without a valley", new AskedValley().cheapest(0, 0), -1);
        v = Due.of("10;h:0>1=0,1>2=0,2>3=0,3>4=0,4>5=0,5>6=0,6>7=0,7>8=0,8>9=0");
        v.price(7, 99);
        Due.is("the dearest", v.cheapest(0, 9), 891);
    }

    private static void classes() {
        AskedValley v = Due.of("10");
        Due.is("all alike", v.classes(100), 1);
        Due.is("all alike", v.classes(9), 1023);
        v = Due.of("6;a:0>1=0,1>2=0,2>2=1,3>4=0,4>5=0,5>2=1");
        Due.is("classes", v.classes(100), 3);
        Due.is("class", v.classes(0), 1 + 8);
        Due.is("class", v.classes(4), 2 + 16);
        Due.is("class", v.classes(5), 4 + 32);
        v = Due.of("10;h:0>1=0,1>2=0,2>3=0,3>4=0,4>5=0,5>6=0,6>7=0,7>8=0,8>9=0,9>9=1");
        Due.is("all unlike", v.classes(100), 10);
        Due.is("class", v.classes(3), 8);
        int[] no = {-1, 10, 99, 101, Integer.MAX_VALUE, Integer.MIN_VALUE};
        for (int what : no) {
            Due.is("classes " + what, v.classes(what), -1);
        }
        Due.is("classes without a valley", new AskedValley().classes(100), -1);
        Due.is("classes without a valley", new AskedValley().classes(0), -1);
    }

    private static void parts() {
        AskedValley v = Due.of("6;a:0>1=0,1>2=0,2>2=1,3>4=0,4>5=0,5>2=1;c:0>1=5,1>1=5,3>1=5,4>1=5,5>.=5,2>.=6;b:0>2=0,1>5=0");
        Due.is("by one", v.parts(2, 5, 0), 1);
        Due.is("by c", v.parts(2, 5, 1), 2);
        Due.is("by one", v.parts(0, 2, 0), 1);
        Due.is("by a", v.parts(2, 0, 1), 0);
        Due.is("by two", v.parts(0, 1, 0), 2);
        Due.is("by a and a", v.parts(0, 1, 1), 0);
        Due.is("by two", v.parts(0, 3, 0), 2);
        Due.is("by b and then", v.parts(3, 0, 1), 1);
        v = Due.of("3;a:*>1=4");
        Due.is("alike", v.parts(0, 2, 0), -2);
        Due.is("alike", v.parts(0, 2, 1), -2);
        Due.is("the same", v.parts(1, 1, 0), -2);
        Due.is("the same", v.parts(1, 1, 1), -2);
        int[] no = {-1, 3, Integer.MAX_VALUE, Integer.MIN_VALUE};
        for (int s : no) {
            Due.is("parts " + s, v.parts(s, 0, 0), -1);
            Due.is("parts " + s, v.parts(0, s, 0), -1);
            Due.is("parts what " + s, v.parts(0, 1, s), -1);
        }
        Due.is("parts what 2", v.parts(0, 1, 2), -1);
        Due.is("parts without a valley", new AskedValley().parts(0, 0, 0), -1);
        v = Due.of("10;h:0>1=0,1>2=0,2>3=0,3>4=0,4>5=0,5>6=0,6>7=0,7>8=0,8>9=0,9>9=1");
        Due.is("the longest", v.parts(0, 1, 0), 9);
        Due.is("the longest", v.parts(0, 1, 1), 7);
        Due.is("the shorter", v.parts(0, 9, 0), 1);
    }

    private static void known() {
        AskedValley v = Due.of("4;d:*>2=0;g:*>1=0");
        Due.is("one", v.known(0), 1);
        Due.is("the state", v.known(1), 2);
        Due.is("the question", v.known(2), 3);
        // The valley of the longest row there is for four states: a rounds, b brings 3 to 0.
        v = Due.of("4;a:0>1=0,1>2=0,2>3=0,3>0=0;b:3>0=0");
        Due.is("nine", v.known(0), 9);
        Due.is("the state", v.known(1), 0);
        Due.is("the question", v.known(2), 1);
        v = Due.of("2;a:0>1=1,1>0=2");
        Due.is("answers are set aside", v.known(0), -2);
        Due.is("answers are set aside", v.known(1), -2);
        Due.is("answers are set aside", v.known(2), -2);
        v = Due.of("10;a:0>1=0,1>2=0,2>3=0,3>4=0,4>5=0,5>6=0,6>7=0,7>8=0,8>9=0,9>0=0;b:9>0=0");
        Due.is("the longest", v.known(0), 81);
        int[] no = {-1, 3, Integer.MAX_VALUE, Integer.MIN_VALUE};
        for (int what : no) {
            Due.is("known " + what, v.known(what), -1);
        }
        Due.is("known without a valley", new AskedValley().known(0), -1);
    }

    private static void plans() {
        AskedValley v = Due.of("4;a:0>.=1,1>.=1,2>.=2,3>.=2;b:0>.=1,1>.=2;c:2>.=1,3>.=2;d:*>0=0");
        Due.is("one alone", v.plan(8, 0), 0);
        Due.is("one alone", v.plan(8, 1), -4);
        Due.is("d is enough", v.plan(15, 0), 1);
        Due.is("d", v.plan(15, 1), 3);
        Due.is("b", v.plan(3, 1), 1);
        v = Due.of("4;a:0>.=1,1>.=1,2>.=2,3>.=2;b:0>.=1,1>.=2;c:2>.=1,3>.=2");
        Due.is("two at worst", v.plan(15, 0), 2);
        Due.is("a first", v.plan(15, 1), 0);
        Due.is("c tells them all", v.plan(13, 0), 1);
        Due.is("c", v.plan(13, 1), 2);
        Due.is("a and one more", v.plan(12, 0), 1);
        Due.is("c", v.plan(12, 1), 2);
        v = Due.of("3;a:*>.=3;b:0>1=0,1>0=0");
        Due.is("no plan", v.plan(3, 0), -2);
        Due.is("no plan", v.plan(3, 1), -2);
        Due.is("one alone", v.plan(2, 0), 0);
        v = Due.of("2;a:0>1=1,1>0=2");
        Due.is("answers are minded", v.plan(3, 0), 1);
        int[] no = {0, -1, 4, 5, 1024, Integer.MAX_VALUE, Integer.MIN_VALUE};
        for (int set : no) {
            Due.is("plan " + set, v.plan(set, 0), -1);
        }
        Due.is("plan what", v.plan(3, 2), -1);
        Due.is("plan what", v.plan(3, -1), -1);
        Due.is("plan without a valley", new AskedValley().plan(1, 0), -1);
        v = Due.of("10;a:0>1=0,1>2=0,2>3=0,3>4=0,4>5=0,5>6=0,6>7=0,7>8=0,8>9=0,9>0=0;b:9>0=0");
        Due.is("without answers as long as a row", v.plan(1023, 0), 81);
        Due.is("without answers as long as a row", v.plan(1023, 1), 1);
    }

    private static void logs() {
        AskedValley v = Due.of(ROUND);
        int[] log = {0, 0, 0, 0, 1, 0};
        int[] due = {3, 1, 0};
        for (int what = 0; what < 3; what++) {
            Due.feed(v, log);
            Due.is("log " + what, v.logged(3, what), due[what]);
        }
        int[] lie = {0, 1, 0, 1, 0, 1};
        int[] lies = {0, 0, 2};
        for (int what = 0; what < 3; what++) {
            Due.feed(v, lie);
            Due.is("lies " + what, v.logged(3, what), lies[what]);
        }
        int[] seven = {7, 9};
        Due.feed(v, seven);
        Due.is("all lie", v.logged(1, 2), 1);
        int[] long20 = new int[40];
        Due.feed(v, long20);
        Due.is("20", v.logged(20, 2), 5);
        Due.feed(v, new int[60]);
        Due.is("21", v.logged(21, 2), -1);
        Due.is("0", v.logged(0, 2), -1);
        Due.is("what", v.logged(1, 3), -1);
        Due.is("what", v.logged(1, -1), -1);
        Due.is("bytes", v.count(9), 60);
        v.check(0, 0);
        Due.feed(v, new int[20]);
        Due.is("too few", v.logged(11, 0), -1);
        Due.is("n", v.logged(Integer.MAX_VALUE, 0), -1);
        Due.is("n", v.logged(Integer.MIN_VALUE, 0), -1);
        Due.is("bytes", v.count(9), 20);
        Due.is("just so many", v.logged(10, 2), 2);
        Due.feed(v, 0, 0, 8, 0);
        Due.is("a question above 7", v.logged(2, 0), -3);
        Due.is("bytes", v.count(9), 0);
        Due.feed(v, 0, 0, 7, 10);
        Due.is("an answer above 9", v.logged(2, 0), -3);
        Due.feed(v, 0, 255);
        Due.is("an answer above 9", v.logged(1, 2), -3);
        AskedValley none = new AskedValley();
        Due.feed(none, 9);
        Due.is("without a valley", none.logged(1, 0), -1);
        Due.is("bytes", none.count(9), 20);
    }

    private static void nexts() {
        AskedValley v = Due.of("4;a:0>0=1,1>0=1,2>0=1,3>0=2;b:0>.=5,1>.=5,2>.=6,3>.=6;c:3>.=7,1>.=7");
        Due.is("b", v.next(15, 0), 1);
        Due.is("two", v.next(15, 1), 2);
        Due.is("a", v.next(8 + 1, 0), 0);
        Due.is("one", v.next(8 + 1, 1), 1);
        Due.is("c", v.next(3, 0), 2);
        Due.is("one alone", v.next(4, 0), 0);
        Due.is("one alone", v.next(4, 1), 1);
        int[] no = {0, -1, 16, 17, Integer.MAX_VALUE, Integer.MIN_VALUE};
        for (int set : no) {
            Due.is("next " + set, v.next(set, 0), -1);
        }
        Due.is("next what", v.next(3, 2), -1);
        Due.is("next what", v.next(3, -1), -1);
        Due.is("next without a valley", new AskedValley().next(1, 0), -1);
        v = Due.of("10");
        Due.is("all", v.next(1023, 1), 10);
        Due.is("all", v.next(1023, 0), 0);
        Due.is("beyond", v.next(1024, 0), -1);
    }

    private static void odds(AskedValley v, int[] bytes, int n, int answer, int above, int below) {
        Due.feed(v, bytes);
        Due.is("odds above", v.odds(n, answer, 0), above);
        Due.feed(v, bytes);
        Due.is("odds below", v.odds(n, answer, 1), below);
        Due.is("bytes", v.count(9), 0);
    }

    private static void odds() {
        AskedValley v = Due.of(ROUND);
        odds(v, new int[] {0, 5, 10, 15, 20}, 1, 1, 2, 5);
        odds(v, new int[] {0, 5, 10, 15, 20}, 1, 0, 3, 5);
        odds(v, new int[] {0, 5, 10, 15, 20}, 1, 9, 0, 1);
        odds(v, new int[] {0, 0, 25, 25, 25, 25}, 2, 1, 1, 4);
        odds(v, new int[] {0, 0, 0, 0, 7, 0}, 2, 1, 1, 1);
        odds(v, new int[] {1, 1, 2, 3, 4, 5}, 2, 1, 1, 1);
        odds(v, new int[] {0, 0, 0, 0, 0}, 1, 1, -2, -2);
        odds(v, new int[] {8, 1, 1, 1, 1}, 1, 1, -3, -3);
        odds(v, new int[] {0, 1, 1, 1, 26}, 1, 1, -3, -3);
        odds(v, new int[] {8, 0, 0, 0, 0}, 1, 1, -3, -3);
        odds(v, new int[] {0, 255, 0, 0, 0}, 1, 1, -3, -3);
        odds(v, new int[] {7, 1, 2, 3, 4, 255}, 1, 0, 1, 1);
        int[] long20 = new int[24];
        long20[20] = 3;
        long20[23] = 4;
        odds(v, long20, 20, 1, 3, 7);
        Due.feed(v, long20);
        Due.is("n", v.odds(0, 1, 0), -1);
        Due.is("n", v.odds(21, 1, 0), -1);
        Due.is("n", v.odds(Integer.MAX_VALUE, 1, 0), -1);
        Due.is("answer", v.odds(1, 10, 0), -1);
        Due.is("answer", v.odds(1, -1, 0), -1);
        Due.is("what", v.odds(1, 1, 2), -1);
        Due.is("what", v.odds(1, 1, -1), -1);
        Due.is("bytes", v.count(9), 40);
        v.check(0, 0);
        Due.feed(v, new int[20]);
        Due.is("too few", v.odds(17, 1, 0), -1);
        Due.is("bytes", v.count(9), 20);
        Due.is("just so many", v.odds(16, 1, 0), -2);
        AskedValley none = new AskedValley();
        Due.feed(none, 0, 1, 1);
        Due.is("without a valley", none.odds(1, 0, 0), -1);
        Due.is("bytes", none.count(9), 20);
    }

    private static void inspectors() {
        AskedValley v = Due.of("3;a:0>1=0,1>2=0;b:2>.=5");
        Due.is("wins at once", v.inspectors(2, 5, 0), 1);
        Due.is("wins at once", v.inspectors(2, 5, 1), 1);
        Due.is("neither", v.inspectors(0, 5, 0), 0);
        Due.is("neither", v.inspectors(0, 5, 1), 0);
        Due.is("the answer 0", v.inspectors(0, 0, 0), 1);
        Due.is("no such answer had", v.inspectors(2, 6, 0), 0);
        // Whatever is asked at 0 leads to 1, where a wins: but who asks a at 0 keeps the other from it.
        v = Due.of("2;a:0>1=1,1>.=9;b:0>1=1;c:0>1=1;d:0>1=1;e:0>1=1;f:0>1=1;g:0>1=1;h:0>1=1");
        Due.is("a keeps the other from it", v.inspectors(0, 9, 0), 1);
        Due.is("a keeps the other from it", v.inspectors(0, 9, 1), 3);
        v = Due.of("2;a:0>1=1;b:0>1=1;c:0>1=1,1>.=9;d:0>1=1,1>.=9;e:0>1=1;f:0>1=1;g:0>1=1;h:0>1=1");
        Due.is("c or d will do", v.inspectors(0, 9, 0), 2);
        Due.is("c or d will do", v.inspectors(0, 9, 1), 2);
        v = Due.of("3;a:0>1=1,2>0=0,1>.=9;b:0>1=1,1>.=9;c:0>1=1;d:0>1=1;e:0>1=1;f:0>1=1;g:0>1=1;h:0>1=1");
        Due.is("to where the other loses", v.inspectors(2, 9, 0), 1);
        Due.is("to where the other loses", v.inspectors(2, 9, 1), 3);
        int[] no = {-1, 10, Integer.MAX_VALUE, Integer.MIN_VALUE};
        for (int n : no) {
            Due.is("inspectors at " + n, v.inspectors(n, 0, 0), -1);
            Due.is("inspectors for " + n, v.inspectors(0, n, 0), -1);
            Due.is("inspectors what " + n, v.inspectors(0, 0, n), -1);
        }
        Due.is("inspectors at 3", v.inspectors(3, 0, 0), -1);
        Due.is("inspectors what 2", v.inspectors(0, 0, 2), -1);
        Due.is("inspectors without a valley", new AskedValley().inspectors(0, 0, 0), -1);
    }

    private static void together() {
        AskedValley v = Due.of(ROUND);
        Due.is("b behind a is another", v.together(0, 1, 0), 2);
        Due.is("the other way", v.together(1, 0, 0), 1);
        Due.is("neither", v.together(0, 1, 3), 0);
        Due.is("both", v.together(0, 7, 3), 3);
        Due.is("one with itself", v.together(0, 0, 0), 3);
        Due.is("one with itself", v.together(0, 0, 2), 0);
        int[] no = {-1, 8, Integer.MAX_VALUE, Integer.MIN_VALUE};
        for (int n : no) {
            Due.is("together " + n, v.together(n, 0, 0), -1);
            Due.is("together " + n, v.together(0, n, 0), -1);
            Due.is("together at " + n, v.together(0, 0, n), -1);
        }
        Due.is("together at 4", v.together(0, 0, 4), -1);
        Due.is("together without a valley", new AskedValley().together(0, 0, 0), -1);
    }

    private static void alone() {
        AskedValley v = Due.of("5;a:0>1=0,1>2=0,3>3=5;b:4>4=1");
        Due.is("loose", v.alone(0), 1 + 8 + 16);
        Due.is("ends", v.alone(1), 4 + 8 + 16);
        v = Due.of("10");
        Due.is("loose", v.alone(0), 1023);
        Due.is("ends", v.alone(1), 1023);
        v = Due.of(ROUND);
        Due.is("loose", v.alone(0), 0);
        Due.is("ends", v.alone(1), 0);
        int[] no = {-1, 2, Integer.MAX_VALUE, Integer.MIN_VALUE};
        for (int what : no) {
            Due.is("alone " + what, v.alone(what), -1);
        }
        Due.is("alone without a valley", new AskedValley().alone(0), -1);
    }

    private static int check(AskedValley v, int q, int... bytes) {
        Due.feed(v, bytes);
        int answer = v.check(q, bytes.length);
        Due.is("bytes", v.count(9), 0);
        return answer;
    }

    private static void checks() {
        AskedValley v = Due.of(ROUND);
        Due.is("right", check(v, 0, 0, 0, 0, 1), -1);
        Due.is("right", check(v, 0, 0, 0, 0, 1, 255, 255, 255, 255, 255, 255), -1);
        Due.is("right", check(v, 7, 0, 0), -1);
        Due.is("not right", check(v, 0, 1, 0, 0, 1), 0);
        Due.is("not right", check(v, 0, 0, 0, 0, 0, 0), 3);
        Due.is("beyond the states", check(v, 0, 0, 0, 0, 1, 0), 4);
        Due.is("beyond the states", check(v, 0, 0, 0, 0, 1, 255, 255, 255, 255, 255, 254), 9);
        AskedValley none = new AskedValley();
        Due.is("without a valley", check(none, 0, 255, 255), -1);
        Due.is("without a valley", check(none, 0, 255, 0), 1);
        Due.is("nothing asked", none.check(0, 0), -1);
        Due.is("too few", none.check(0, 1), -2);
        Due.feed(v, new int[20]);
        int[] no = {-1, 8, Integer.MAX_VALUE, Integer.MIN_VALUE};
        for (int q : no) {
            Due.is("check " + q, v.check(q, 0), -2);
        }
        Due.is("check n", v.check(0, 11), -2);
        Due.is("check n", v.check(0, -1), -2);
        Due.is("bytes", v.count(9), 20);
        Due.is("nothing is right", v.check(0, 0), -1);
        Due.is("bytes", v.count(9), 0);
    }
}
