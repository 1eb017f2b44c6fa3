import java.util.Random;

/** All promises: runs of calls by drawn numbers (always the same), told to the class and to Naive. */
public final class RandomTest {
    private static final int RUNS = 400;
    private static final int CALLS = 400;
    private static final int[] ODD = {-1, -2, 7, 8, 9, 10, 11, 20, 21, 39, 40, 60, 61, 99, 100, 101, 104, 105, 220, 221,
        240, 241, 255, 256, 1023, 1024, 9999, 10000, 65535, 65536, Integer.MAX_VALUE, Integer.MIN_VALUE};

    private final Random random;
    private final AskedValley v = new AskedValley();
    private final Naive naive = new Naive();
    private final int kind;
    private String call;

    private RandomTest(int run) {
        random = new Random(run);
        kind = run % 4;
    }

    public static void main(String[] args) {
        int runs = args.length > 0 ? Integer.parseInt(args[0]) : RUNS;
        for (int run = 0; run < runs; run++) {
            RandomTest test = new RandomTest(run);
            for (int i = 0; i < CALLS; i++) {
                test.step(run);
            }
        }
        Due.end();
    }

    private boolean chance(int of) {
        return random.nextInt(of) == 0;
    }

    private int number(int most) {
        return chance(40) ? ODD[random.nextInt(ODD.length)] : random.nextInt(most + 1);
    }

    private void step(int run) {
        if (random.nextInt(100) < 2 || v.count(1) == 0) {
            text(valley(), 0, 0);
        } else if (chance(10)) {
            text(law(), 1, 0);
        } else {
            any(random.nextInt(31));
        }
        for (int what = 0; what <= 10; what++) {
            Due.is("run " + run + " count " + what + " behind " + call, v.count(what), naive.count(what));
        }
    }

    private void due(String told, long got, long want) {
        call = told;
        Due.is(told, got, want);
    }

    private static int bit(boolean b) {
        return b ? 1 : 0;
    }

    private void feed(int[] bytes) {
        for (int from = 0; from < bytes.length; from += 20) {
            int[] five = new int[5];
            for (int i = 0; i < 20; i++) {
                int each = from + i < bytes.length ? bytes[from + i] : random.nextInt(256);
                five[i / 4] |= (each & 255) << 24 - 8 * (i % 4);
            }
            due("feed", v.feed(five[0], five[1], five[2], five[3], five[4]), naive.feed(five));
        }
    }

    /** Feeds a text, at times with a byte spoilt, and reads it as a valley 0, a law 1, a census 2, looked at 3. */
    private void text(String right, int as, int what) {
        String text = right;
        if (chance(as == 0 ? 6 : 3)) {
            String signs = "0123456789abcdefghx;:,>.=*()[]!&|<+-/% qlpbnstwz";
            int at = random.nextInt(text.length());
            String sign = String.valueOf(signs.charAt(random.nextInt(signs.length())));
            int cut = random.nextInt(3);
            text = text.substring(0, at) + (cut < 2 ? sign : "") + text.substring(cut == 0 ? at : at + 1);
        }
        if (v.count(9) > 0) {
            due("check", v.check(0, 0), naive.check(0, 0));
        }
        int[] bytes = new int[text.length()];
        for (int i = 0; i < bytes.length; i++) {
            bytes[i] = text.charAt(i);
        }
        feed(bytes);
        int n = chance(30) ? number(250) : chance(20) ? random.nextInt(text.length() + 1) : text.length();
        switch (as) {
            case 0:
                due("valley " + text + " " + n, v.valley(n), naive.valley(n));
                break;
            case 1:
                due("law " + text + " " + n, v.law(n), naive.law(n));
                break;
            case 2:
                due("census " + text + " " + n, v.census(n), naive.census(n));
                break;
            default:
                due("look " + text + " " + n + " " + what, v.look(n, what), naive.look(n, what));
        }
    }

    /** A valley in which each question has a line of four rules at most, and few answers are rare. */
    private String dense() {
        int states = 2 + random.nextInt(chance(3) ? 9 : 4);
        int rare = 2 + random.nextInt(12);
        StringBuilder text = new StringBuilder().append(states);
        for (char q = 'a'; q <= 'h'; q++) {
            int from = random.nextInt(states);
            text.append(';').append(q).append(':');
            for (int r = 0; r < 4 && r < states; r++) {
                boolean rest = r == 3 && states > 4;
                String s = rest ? "*" : String.valueOf((from + r) % states);
                int answer = chance(rare) ? random.nextInt(10) : 1;
                text.append(r == 0 ? "" : ",").append(s).append('>').append(random.nextInt(states)).append('=').append(answer);
            }
        }
        return text.toString();
    }

    /** A valley in which questions lead upwards, mostly, and few at the highest state have the answer 9. */
    private String layered() {
        int states = 2 + random.nextInt(3);
        StringBuilder text = new StringBuilder().append(states);
        for (char q = 'a'; q <= 'h'; q++) {
            text.append(';').append(q).append(':');
            for (int s = 0; s < states; s++) {
                boolean top = s == states - 1;
                int to = top || chance(40) ? random.nextInt(states) : s + 1 + random.nextInt(states - s - 1);
                int answer = top && chance(3) || chance(80) ? 9 : random.nextInt(9);
                text.append(s == 0 ? "" : ",").append(s).append('>').append(to).append('=').append(answer);
            }
        }
        return text.toString();
    }

    private String valley() {
        if (chance(2)) {
            return chance(2) ? dense() : layered();
        }
        int states = 2 + random.nextInt(9);
        int lines = random.nextInt(9);
        int answers = kind == 0 ? 1 : kind == 1 ? 2 : kind == 2 ? 3 : 10;
        StringBuilder text = new StringBuilder().append(states < 10 && chance(5) ? "0" : "").append(states);
        int taken = 0;
        for (int i = 0; i < lines; i++) {
            int q = random.nextInt(8);
            int rules = 1 + random.nextInt(states);
            if ((taken >> q & 1) == 0 && text.length() + 9 + 6 * rules <= 220) {
                taken |= 1 << q;
                text.append(';').append((char) ('a' + q)).append(':').append(rules(states, rules, answers));
            }
        }
        return text.toString();
    }

    private String rules(int states, int rules, int answers) {
        StringBuilder text = new StringBuilder();
        int from = random.nextInt(states);
        boolean slow = chance(2);
        for (int r = 0; r < rules; r++) {
            int s = (from + r) % states;
            int to = slow ? (s + 1) % states : random.nextInt(states);
            boolean stays = chance(4);
            text.append(s).append('>').append(stays ? "." : String.valueOf(to)).append('=').append(random.nextInt(answers)).append(',');
        }
        if (chance(3)) {
            text.append("*>").append(chance(2) ? "." : "1").append('=').append(random.nextInt(answers)).append(',');
        }
        text.setLength(text.length() - 1);
        return text.toString();
    }

    private String questions(int depth) {
        StringBuilder text = new StringBuilder();
        int items = 1 + random.nextInt(4);
        for (int i = 0; i < items; i++) {
            text.append(chance(3) ? String.valueOf(2 + random.nextInt(chance(3) ? 8 : 2)) : "");
            boolean group = depth < (chance(30) ? 3 : 2) && chance(3);
            text.append(group ? "(" + questions(depth + 1) + ")" : String.valueOf((char) ('a' + random.nextInt(8))));
        }
        return text.toString();
    }

    private String census() {
        String text = questions(0);
        return text.length() > 60 ? "3(ab)c" : text;
    }

    private String number(int depth, boolean tight) {
        StringBuilder text = new StringBuilder();
        int items = chance(2) ? 1 : 1 + random.nextInt(3);
        for (int i = 0; i < items; i++) {
            String signs = tight ? "*/%" : "+-";
            text.append(i == 0 ? "" : String.valueOf(signs.charAt(random.nextInt(signs.length()))));
            if (!tight) {
                text.append(number(depth, true));
            } else if (depth < (chance(20) ? 7 : 6) && chance(5)) {
                text.append('[').append(number(depth + 1, false)).append(']');
            } else if (chance(2)) {
                text.append("qalpbnstw".charAt(random.nextInt(9)));
            } else {
                int most = chance(8) ? 100000 : chance(3) ? 100 : 4;
                text.append(chance(40) ? "00" : "").append(random.nextInt(most));
            }
        }
        return text.toString();
    }

    private String condition(int depth, boolean tight) {
        StringBuilder text = new StringBuilder();
        int items = chance(2) ? 1 : 1 + random.nextInt(2);
        for (int i = 0; i < items; i++) {
            text.append(i == 0 ? "" : tight ? "&" : "|");
            text.append(tight ? test(depth) : condition(depth, true));
        }
        return text.toString();
    }

    private String test(int depth) {
        int most = chance(20) ? 7 : 6;
        if (depth < most && chance(5)) {
            return "!" + test(depth + 1);
        }
        if (depth < most && chance(5)) {
            return "(" + condition(depth + 1, false) + ")";
        }
        return number(depth, false) + "<>=".charAt(random.nextInt(3)) + number(depth, false);
    }

    private String law() {
        StringBuilder text = new StringBuilder();
        int rules = chance(8) ? 17 : 1 + random.nextInt(6);
        for (int r = 0; r < rules; r++) {
            char letter = "eeegx".charAt(random.nextInt(5));
            String small = letter + (letter == 'x' ? "" : String.valueOf((char) ('0' + random.nextInt(10)))) + "(q=" + random.nextInt(8) + ")";
            String great = letter + (letter == 'x' ? "" : number(0, false)) + "(" + condition(1, false) + ")";
            String rule = rules == 17 || great.length() > 60 ? small : great;
            if (text.length() + rule.length() < 238) {
                text.append(r == 0 ? "" : ";").append(rule);
            }
        }
        return text.toString();
    }

    private int[] bytes(int n, int most) {
        int[] bytes = new int[n];
        for (int i = 0; i < n; i++) {
            bytes[i] = chance(60) ? random.nextInt(256) : random.nextInt(most + 1);
        }
        return bytes;
    }

    private void empty() {
        if (v.count(9) > 0 && !chance(10)) {
            due("check", v.check(1, 0), naive.check(1, 0));
        }
    }

    private void any(int method) {
        int s = number(v.count(1) - 1);
        int t = number(v.count(1) - 1);
        int q = number(7);
        int r = number(7);
        int what = number(1);
        int set = chance(20) ? number(1024) : 1 + random.nextInt((1 << v.count(1)) - 1);
        switch (method) {
            case 0:
                due("state " + s, bit(v.state(s)), naive.state(s));
                break;
            case 1:
                int price = chance(4) ? 0 : number(99);
                due("price " + q + " " + price, bit(v.price(q, price)), naive.price(q, price));
                break;
            case 2:
                int purse = chance(2) ? number(200) : number(9999);
                due("purse " + purse, bit(v.purse(purse)), naive.purse(purse));
                break;
            case 3:
            case 4:
                text(census(), 2, 0);
                break;
            case 5:
            case 6:
                text(census(), 3, chance(3) ? number(20) : 100 + random.nextInt(5));
                break;
            case 7:
                int n = chance(20) ? number(100) : 1 + random.nextInt(12);
                due("days " + n, v.days(n), naive.days(n));
                break;
            case 8:
                int days = chance(20) ? number(100) : 1 + random.nextInt(6);
                int which = number(5);
                due("tried " + days + " " + which, v.tried(days, which), naive.tried(days, which));
                break;
            case 9:
                due("askedAt " + q + " " + s + " " + what, v.askedAt(q, s, what), naive.askedAt(q, s, what));
                break;
            case 10:
                due("changePlaces " + q + " " + r, v.changePlaces(q, r), naive.changePlaces(q, r));
                break;
            case 11:
                forms();
                break;
            case 12:
                due("leads " + s + " " + t + " " + what, v.leads(s, t, what), naive.leads(s, t, what));
                break;
            case 13:
                due("back " + q + " " + s, v.back(q, s), naive.back(q, s));
                break;
            case 14:
                due("cheapest " + s + " " + t, v.cheapest(s, t), naive.cheapest(s, t));
                break;
            case 15:
                int of = chance(2) ? 100 : s;
                due("classes " + of, v.classes(of), naive.classes(of));
                break;
            case 16:
                due("parts " + s + " " + t + " " + what, v.parts(s, t, what), naive.parts(s, t, what));
                break;
            case 17:
                int side = number(2);
                due("known " + side, v.known(side), naive.known(side));
                break;
            case 18:
                due("plan " + set + " " + what, v.plan(set, what), naive.plan(set, what));
                break;
            case 19:
                logged();
                break;
            case 20:
                due("next " + set + " " + what, v.next(set, what), naive.next(set, what));
                break;
            case 21:
                odds(what);
                break;
            default:
                more(method, s, q, r, what);
        }
    }

    private void more(int method, int s, int q, int r, int what) {
        switch (method) {
            case 22:
            case 23:
                int wanted = chance(2) ? 9 : number(kind == 3 ? 9 : kind + 1);
                due("inspectors " + s + " " + wanted + " " + what, v.inspectors(s, wanted, what), naive.inspectors(s, wanted, what));
                break;
            case 24:
                due("together " + q + " " + r + " " + s, v.together(q, r, s), naive.together(q, r, s));
                break;
            case 25:
                due("alone " + what, v.alone(what), naive.alone(what));
                break;
            case 26:
                int x = number(65535);
                due("seed " + x, bit(v.seed(x)), naive.seed(x));
                break;
            case 27:
                due("keep", v.keep(), naive.keep());
                break;
            case 28:
                due("undo", bit(v.undo()), naive.undo());
                break;
            case 29:
                check(q);
                break;
            default:
                feed(bytes(20, 255));
        }
    }

    private void forms() {
        empty();
        int n = chance(20) ? number(11) : 1 + random.nextInt(chance(5) ? 8 : 6);
        feed(bytes(Math.max(1, Math.min(20, n)), chance(2) ? 7 : 2));
        int what = chance(2) ? 100 : random.nextInt(Math.max(1, Math.min(20, n)) + (chance(10) ? 1 : 0));
        due("forms " + n + " " + what, v.forms(n, what), naive.forms(n, what));
    }

    private void logged() {
        empty();
        int n = chance(10) ? number(21) : 1 + random.nextInt(5);
        int[] log = bytes(42, 7);
        int s = random.nextInt(10);
        for (int i = 0; i < 21 && !chance(4); i++) {
            // Mostly what some state would have answered.
            int q = log[2 * i] & 7;
            if (v.askedAt(q, s, 0) >= 0 && !chance(5)) {
                log[2 * i + 1] = v.askedAt(q, s, 0);
            }
            s = Math.max(0, v.askedAt(q, s, 1));
        }
        feed(java.util.Arrays.copyOf(log, Math.max(1, Math.min(42, 2 * Math.max(0, Math.min(21, n))))));
        int what = number(2);
        due("logged " + n + " " + what, v.logged(n, what), naive.logged(n, what));
    }

    private void odds(int what) {
        empty();
        int n = chance(10) ? number(21) : 1 + random.nextInt(5);
        int row = Math.max(1, Math.min(21, n));
        int[] bytes = bytes(row + v.count(1), 7);
        for (int i = row; i < bytes.length; i++) {
            bytes[i] = chance(3) ? 0 : random.nextInt(chance(40) ? 27 : 26);
        }
        feed(bytes);
        int wanted = number(kind == 3 ? 9 : 2);
        due("odds " + n + " " + wanted + " " + what, v.odds(n, wanted, what), naive.odds(n, wanted, what));
    }

    private void check(int q) {
        empty();
        int n = number(10);
        int[] bytes = new int[10];
        for (int i = 0; i < 10; i++) {
            int answer = v.askedAt(q, i, 0);
            bytes[i] = chance(12) ? random.nextInt(256) : answer < 0 ? 255 : answer;
        }
        feed(bytes);
        due("check " + q + " " + n, v.check(q, n), naive.check(q, n));
    }
}
