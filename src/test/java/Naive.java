import java.util.ArrayDeque;
import java.util.ArrayList;
import java.util.Arrays;
import java.util.HashMap;
import java.util.HashSet;
import java.util.List;
import java.util.Map;
import java.util.Set;
import java.util.TreeSet;

/**
 * The document once more, by other means than the class: texts are read by automata with a stack, laws are reckoned by
 * cutting their text, rows are tried out. Slow; used by RandomTest alone.
 */
final class Naive {
    String tape = "";
    int states = 0;
    int[][] answer = new int[8][10];
    int[][] behind = new int[8][10];
    int[] price = {1, 1, 1, 1, 1, 1, 1, 1};
    List<String> law = new ArrayList<>();
    /** The state, last answer, last question, purse, asked, sum, day, X. */
    int[] now = {0, 0, 8, 999, 0, 0, 0, 1};
    int[] kept = null;

    /** Stops a reading with its fault. */
    private static final class Fault extends RuntimeException {
        private static final long serialVersionUID = 1;
        final int code;

        Fault(int number, int place) {
            super("fault", null, false, false);
            code = -1000 * number - place;
        }
    }

    private static boolean in(int low, int x, int high) {
        return low <= x && x <= high;
    }

    private static boolean isDigit(char c) {
        return c >= '0' && c <= '9';
    }

    /** The first n bytes with a sign 0xffff for the end; the tape is empty then. */
    private String cut(int n) {
        String text = tape.substring(0, n) + '\uffff';
        tape = "";
        return text;
    }

    private boolean lacks(int n, int most) {
        return n < 1 || n > most || n > tape.length();
    }

    int count(int what) {
        int[] all = {now[6], states, now[0], now[1], now[2], now[3], now[4], now[5], law.size(), tape.length(), now[7]};
        return in(0, what, 10) ? all[what] : -1;
    }

    int state(int s) {
        if (!in(0, s, states - 1)) {
            return 0;
        }
        now[0] = s;
        return 1;
    }

    int price(int q, int v) {
        if (!in(0, q, 7) || !in(0, v, 99)) {
            return 0;
        }
        price[q] = v;
        return 1;
    }

    int purse(int v) {
        if (!in(0, v, 9999)) {
            return 0;
        }
        now[3] = v;
        return 1;
    }

    int seed(int x) {
        if (!in(0, x, 65535)) {
            return 0;
        }
        now[7] = x;
        return 1;
    }

    int keep() {
        kept = now.clone();
        return now[6];
    }

    int undo() {
        if (kept == null) {
            return 0;
        }
        now = kept.clone();
        now[0] = now[0] >= states ? 0 : now[0];
        return 1;
    }

    int feed(int... five) {
        if (tape.length() > 240) {
            return -1;
        }
        StringBuilder text = new StringBuilder(tape);
        for (int each : five) {
            for (int i = 3; i >= 0; i--) {
                text.append((char) (each >> 8 * i & 255));
            }
        }
        tape = text.toString();
        return tape.length();
    }

    // ---- the valley

    int valley(int n) {
        if (lacks(n, 220)) {
            return -1;
        }
        int[][] a = new int[8][10];
        int[][] b = new int[8][10];
        for (int[] each : b) {
            for (int s = 0; s < 10; s++) {
                each[s] = s;
            }
        }
        try {
            states = tellValley(cut(n), a, b);
        } catch (Fault f) {
            return f.code;
        }
        answer = a;
        behind = b;
        now[0] = 0;
        now[1] = 0;
        now[2] = 8;
        return states;
    }

    private static int tellValley(String t, int[][] a, int[][] b) {
        int digits = 0;
        while (isDigit(t.charAt(digits))) {
            if (digits == 2) {
                throw new Fault(2, 2);
            }
            digits++;
        }
        if (digits == 0) {
            throw new Fault(1, 0);
        }
        int count = Integer.parseInt(t.substring(0, digits));
        if (!in(2, count, 10)) {
            throw new Fault(3, 0);
        }
        String form = ";q:s>n=a";
        int step = 0;
        int q = -1;
        Set<Integer> from = null;
        int to = 0;
        String lines = "";
        String told = "";
        for (int i = digits; i < t.length(); i++) {
            char c = t.charAt(i);
            boolean ends = c == '\uffff';
            switch (form.charAt(step)) {
                case 'q':
                    if (!in('a', c, 'h')) {
                        throw new Fault(1, i);
                    }
                    if (lines.indexOf(c) >= 0) {
                        throw new Fault(6, i);
                    }
                    lines += c;
                    q = c - 'a';
                    told = "";
                    break;
                case 's':
                    if (c != '*' && !isDigit(c)) {
                        throw new Fault(1, i);
                    }
                    if (c != '*' && c - '0' >= count) {
                        throw new Fault(3, i);
                    }
                    if (told.indexOf('*') >= 0 || told.indexOf(c) >= 0) {
                        throw new Fault(7, i);
                    }
                    from = new TreeSet<>();
                    for (int s = 0; s < count; s++) {
                        if (c == '*' ? told.indexOf('0' + s) < 0 : c - '0' == s) {
                            from.add(s);
                        }
                    }
                    told += c;
                    break;
                case 'n':
                    if (c != '.' && !isDigit(c)) {
                        throw new Fault(1, i);
                    }
                    if (c != '.' && c - '0' >= count) {
                        throw new Fault(3, i);
                    }
                    to = c == '.' ? -1 : c - '0';
                    break;
                case 'a':
                    if (!isDigit(c)) {
                        throw new Fault(1, i);
                    }
                    for (int s : from) {
                        a[q][s] = c - '0';
                        b[q][s] = to < 0 ? s : to;
                    }
                    break;
                case ';':
                    if (ends) {
                        return count;
                    }
                    if (c == ',' && q >= 0) {
                        step = 2;
                    } else if (c != ';') {
                        throw new Fault(1, i);
                    }
                    break;
                default:
                    if (c != form.charAt(step)) {
                        throw new Fault(1, i);
                    }
            }
            step = (step + 1) % form.length();
        }
        throw new IllegalStateException();
    }

    // ---- the census

    int census(int n) {
        if (lacks(n, 60) || states == 0) {
            return -1;
        }
        try {
            for (char c : row(cut(n)).toCharArray()) {
                ask(now, c - 'a');
            }
        } catch (Fault f) {
            return f.code;
        }
        return now[1];
    }

    private void ask(int[] at, int q) {
        at[1] = answer[q][at[0]];
        at[2] = q;
        at[0] = behind[q][at[0]];
        at[4] = Math.min(9999, at[4] + 1);
        at[5] = Math.min(99999, at[5] + at[1]);
    }

    private static String row(String t) {
        // Per open round what stood ahead of it, how many times it goes and where it begins.
        ArrayDeque<Object[]> open = new ArrayDeque<>();
        StringBuilder now = new StringBuilder();
        int ahead = 0;
        boolean empty = true;
        int start = -1;
        int times = 1;
        for (int i = 0; i < t.length(); i++) {
            char c = t.charAt(i);
            if (start < 0 && in('2', c, '9')) {
                start = i;
                times = c - '0';
                continue;
            }
            int begins = start < 0 ? i : start;
            if (in('a', c, 'h')) {
                now.append(String.valueOf(c).repeat(times));
                if (ahead + now.length() > 40) {
                    throw new Fault(6, begins);
                }
                empty = false;
            } else if (c == '(') {
                if (open.size() == 2) {
                    throw new Fault(5, i);
                }
                open.push(new Object[] {now.toString(), times, begins});
                ahead += now.length();
                now.setLength(0);
                empty = true;
            } else if (c == ')' && start < 0 && !empty && !open.isEmpty()) {
                Object[] before = open.pop();
                String whole = before[0] + now.toString().repeat((Integer) before[1]);
                ahead -= ((String) before[0]).length();
                if (ahead + whole.length() > 40) {
                    throw new Fault(6, (Integer) before[2]);
                }
                now = new StringBuilder(whole);
            } else if (c == '\uffff' && start < 0 && !empty && open.isEmpty()) {
                return now.toString();
            } else {
                throw new Fault(1, i);
            }
            start = -1;
            times = 1;
        }
        throw new IllegalStateException();
    }

    int look(int n, int what) {
        if (!in(0, what, 39) && !in(100, what, 104) || lacks(n, 60) || states == 0) {
            return -1;
        }
        String row;
        try {
            row = row(cut(n));
        } catch (Fault f) {
            return f.code;
        }
        int[] at = {now[0], 0, 0, 0, 0, 0};
        int seen = 1 << at[0];
        List<Integer> answers = new ArrayList<>();
        for (char c : row.toCharArray()) {
            ask(at, c - 'a');
            answers.add(at[1]);
            seen |= 1 << at[0];
        }
        if (what < 100) {
            return what < answers.size() ? answers.get(what) : -4;
        }
        int[] all = {at[1], at[0], at[5], at[4], seen};
        return all[what - 100];
    }

    // ---- the law

    int law(int n) {
        if (lacks(n, 240)) {
            return -1;
        }
        String text = cut(n);
        try {
            checkLaw(text);
        } catch (Fault f) {
            return f.code;
        }
        law = new ArrayList<>(Arrays.asList(text.substring(0, n).split(";")));
        return law.size();
    }

    /** An automaton: what stands open is E (of a rule), ( ! [ and L or R, the sides of a test. */
    private static void checkLaw(String t) {
        StringBuilder open = new StringBuilder();
        String wants = "rule";
        int rules = 0;
        int digits = 0;
        for (int i = 0; i < t.length(); i++) {
            char c = t.charAt(i);
            boolean starts = isDigit(c) || c == '[' || "qalpbnstw".indexOf(c) >= 0;
            int depth = open.toString().replaceAll("[ELR]", "").length();
            char top = open.length() == 0 ? ' ' : open.charAt(open.length() - 1);
            if (digits > 0 && isDigit(c)) {
                if (digits == 5) {
                    throw new Fault(2, i);
                }
                digits++;
                continue;
            }
            digits = 0;
            if (wants.equals("rule") && "egx".indexOf(c) >= 0) {
                if (++rules > 16) {
                    throw new Fault(4, i);
                }
                open.append(c == 'x' ? "" : "E");
                wants = c == 'x' ? "(" : "factor";
            } else if (wants.equals("(") && c == '(') {
                open.append(c);
                wants = "test";
            } else if (wants.equals("test") && (c == '!' || c == '(')) {
                if (depth == 6) {
                    throw new Fault(5, i);
                }
                open.append(c);
            } else if ((wants.equals("factor") || wants.equals("test")) && starts) {
                open.append(wants.equals("test") ? "L" : "");
                wants = "sign";
                if (c == '[') {
                    if (depth == 6) {
                        throw new Fault(5, i);
                    }
                    open.append(c);
                    wants = "factor";
                }
                digits = isDigit(c) ? 1 : 0;
            } else if (wants.equals("sign") && "+-*/%".indexOf(c) >= 0) {
                wants = "factor";
            } else if (wants.equals("sign") && c == ']' && top == '[') {
                open.setLength(open.length() - 1);
            } else if (wants.equals("sign") && c == '(' && top == 'E') {
                open.setLength(0);
                open.append(c);
                wants = "test";
            } else if (wants.equals("sign") && "<>=".indexOf(c) >= 0 && top == 'L') {
                open.setCharAt(open.length() - 1, 'R');
                wants = "factor";
            } else if ((wants.equals("sign") && top == 'R' || wants.equals("more")) && "&|)".indexOf(c) >= 0) {
                open.setLength(open.length() - (top == 'R' ? 1 : 0));
                while (open.charAt(open.length() - 1) == '!') {
                    open.setLength(open.length() - 1);
                }
                wants = "test";
                if (c == ')') {
                    open.setLength(open.length() - 1);
                    while (open.length() > 0 && open.charAt(open.length() - 1) == '!') {
                        open.setLength(open.length() - 1);
                    }
                    wants = open.length() == 0 ? "next" : "more";
                }
            } else if (wants.equals("next") && c == ';') {
                wants = "rule";
            } else if (wants.equals("next") && c == '\uffff') {
                return;
            } else {
                throw new Fault(1, i);
            }
        }
    }

    /** Where the last (or first) of the signs stands that is in no brackets; -1: nowhere. */
    private static int find(String text, String signs, boolean last) {
        int depth = 0;
        int found = -1;
        for (int i = 0; i < text.length(); i++) {
            char c = text.charAt(i);
            depth += c == '(' || c == '[' ? 1 : c == ')' || c == ']' ? -1 : 0;
            if (depth == 0 && signs.indexOf(c) >= 0 && (last || found < 0)) {
                found = i;
            }
        }
        return found;
    }

    private static int number(String e, Map<Character, Integer> letters) {
        for (String signs : new String[] {"+-", "*/%"}) {
            int at = find(e, signs, true);
            if (at >= 0) {
                int left = number(e.substring(0, at), letters);
                int right = number(e.substring(at + 1), letters);
                switch (e.charAt(at)) {
                    case '+':
                        return left + right;
                    case '-':
                        return left - right;
                    case '*':
                        return left * right;
                    case '/':
                        return left / right;
                    default:
                        return left % right;
                }
            }
        }
        if (e.charAt(0) == '[') {
            return number(e.substring(1, e.length() - 1), letters);
        }
        return isDigit(e.charAt(0)) ? Integer.parseInt(e) : letters.get(e.charAt(0));
    }

    private static boolean holds(String c, Map<Character, Integer> letters) {
        int at = find(c, "|", false);
        if (at >= 0) {
            return holds(c.substring(0, at), letters) || holds(c.substring(at + 1), letters);
        }
        at = find(c, "&", false);
        if (at >= 0) {
            return holds(c.substring(0, at), letters) && holds(c.substring(at + 1), letters);
        }
        if (c.charAt(0) == '!') {
            return !holds(c.substring(1), letters);
        }
        if (c.charAt(0) == '(') {
            return holds(c.substring(1, c.length() - 1), letters);
        }
        at = find(c, "<>=", false);
        int left = number(c.substring(0, at), letters);
        int right = number(c.substring(at + 1), letters);
        return c.charAt(at) == '<' ? left < right : c.charAt(at) == '>' ? left > right : left == right;
    }

    /** Of the first rule of a kind that holds the number within its bounds (x: 1); none: 0. */
    private int rule(char kind, int most, int q, int w, int[] at) {
        Map<Character, Integer> letters = new HashMap<>();
        letters.put('q', q);
        letters.put('a', at[1]);
        letters.put('l', at[2]);
        letters.put('p', price[q]);
        letters.put('b', at[3]);
        letters.put('n', at[4] % 100);
        letters.put('s', at[5] % 100);
        letters.put('t', at[6] % 100);
        letters.put('w', w);
        for (String rule : law) {
            int from = rule.indexOf('(');
            boolean held = false;
            try {
                held = rule.charAt(0) == kind && holds(rule.substring(from), letters);
            } catch (ArithmeticException divided) {
                held = false;
            }
            if (held) {
                try {
                    return kind == 'x' ? 1 : Math.max(0, Math.min(most, number(rule.substring(1, from), letters)));
                } catch (ArithmeticException divided) {
                    return 0;
                }
            }
        }
        return 0;
    }

    /** Questions and answers of some days. */
    private int[] go(int n, int[] at) {
        int[] had = new int[2];
        for (int i = 0; i < n && at[6] < 9999; i++) {
            at[7] = (int) ((25173L * at[7] + 13849) % 65536);
            int w = at[7] % 10;
            int best = -1;
            int most = 0;
            for (int q = 7; q >= 0 && states > 0; q--) {
                int likes = price[q] > at[3] || rule('x', 1, q, w, at) > 0 ? 0 : rule('e', 9999, q, w, at);
                if (likes > 0 && likes >= most) {
                    best = q;
                    most = likes;
                }
            }
            if (best >= 0) {
                at[3] -= price[best];
                ask(at, best);
                had[0]++;
                had[1] += at[1];
                at[3] = Math.min(9999, at[3] + rule('g', 99, best, w, at));
            }
            at[6]++;
        }
        return had;
    }

    int days(int n) {
        return in(1, n, 100) ? go(n, now)[0] : -1;
    }

    int tried(int n, int what) {
        if (!in(1, n, 100) || !in(0, what, 5)) {
            return -1;
        }
        int[] at = now.clone();
        int[] had = go(n, at);
        int[] all = {had[0], had[1], at[3], at[0], at[1], at[2]};
        return all[what];
    }

    // ---- rows and states

    private boolean isQ(int q) {
        return in(0, q, 7);
    }

    private boolean isS(int s) {
        return in(0, s, states - 1);
    }

    int askedAt(int q, int s, int what) {
        if (!isQ(q) || !isS(s) || !in(0, what, 1)) {
            return -1;
        }
        return (what == 0 ? answer : behind)[q][s];
    }

    private String both(int q, int r, int s, boolean turned) {
        int first = turned ? r : q;
        int second = turned ? q : r;
        int then = behind[first][s];
        int a = answer[first][s];
        int b = answer[second][then];
        return (turned ? b + " " + a : a + " " + b) + " " + behind[second][then];
    }

    int changePlaces(int q, int r) {
        if (!isQ(q) || !isQ(r) || states == 0) {
            return -1;
        }
        boolean may = true;
        for (int s = 0; s < states; s++) {
            String alone = answer[q][s] + " " + answer[r][s] + " ";
            // Each answer is that of the question asked first, too.
            may &= both(q, r, s, false).equals(both(q, r, s, true)) && both(q, r, s, false).startsWith(alone);
        }
        return q == r || may ? 1 : 0;
    }

    int forms(int n, int what) {
        if (what != 100 && !in(0, what, n - 1) || lacks(n, 10) || states == 0) {
            return -1;
        }
        String row = cut(n).substring(0, n);
        for (char c : row.toCharArray()) {
            if (c > 7) {
                return -3;
            }
        }
        boolean[][] may = new boolean[8][8];
        for (int q = 0; q < 8; q++) {
            for (int r = 0; r < 8; r++) {
                may[q][r] = changePlaces(q, r) == 1;
            }
        }
        TreeSet<String> all = new TreeSet<>();
        ArrayDeque<String> todo = new ArrayDeque<>();
        all.add(row);
        todo.add(row);
        while (!todo.isEmpty()) {
            String each = todo.poll();
            for (int i = 0; i + 1 < n; i++) {
                if (may[each.charAt(i)][each.charAt(i + 1)]) {
                    String other = each.substring(0, i) + each.charAt(i + 1) + each.charAt(i) + each.substring(i + 2);
                    if (all.add(other)) {
                        todo.add(other);
                    }
                }
            }
        }
        return what == 100 ? all.size() : all.first().charAt(what);
    }

    /** The least row of the fewest questions from s to t by going on from the least rows; null: none. */
    private String way(int s, int t) {
        String[] rows = new String[10];
        rows[s] = "";
        for (int length = 0; length < states; length++) {
            for (int from = 0; from < states; from++) {
                for (int q = 0; q < 8; q++) {
                    if (rows[from] != null && rows[from].length() == length) {
                        int to = behind[q][from];
                        String row = rows[from] + q;
                        boolean better = rows[to] == null || rows[to].length() > length && rows[to].compareTo(row) > 0;
                        rows[to] = better ? row : rows[to];
                    }
                }
            }
        }
        return rows[t];
    }

    int leads(int s, int t, int what) {
        if (!isS(s) || !isS(t) || !in(0, what, 1)) {
            return -1;
        }
        String row = way(s, t);
        if (row == null) {
            return -2;
        }
        return what == 0 ? row.length() : row.isEmpty() ? -4 : row.charAt(0) - '0';
    }

    int back(int q, int s) {
        if (!isQ(q) || !isS(s)) {
            return -1;
        }
        String row = way(behind[q][s], s);
        return row == null ? -2 : row.length();
    }

    int cheapest(int s, int t) {
        if (!isS(s) || !isS(t)) {
            return -1;
        }
        int[][] cost = new int[states][states];
        for (int i = 0; i < states; i++) {
            Arrays.fill(cost[i], 100000);
            for (int q = 0; q < 8; q++) {
                cost[i][behind[q][i]] = Math.min(cost[i][behind[q][i]], price[q]);
            }
            cost[i][i] = 0;
        }
        for (int k = 0; k < states; k++) {
            for (int i = 0; i < states; i++) {
                for (int j = 0; j < states; j++) {
                    cost[i][j] = Math.min(cost[i][j], cost[i][k] + cost[k][j]);
                }
            }
        }
        return cost[s][t] >= 100000 ? -2 : cost[s][t];
    }

    /** By the colours of what is behind each question, again and again. */
    private int[] colours() {
        int[] colour = new int[10];
        for (int round = 0; round < 10; round++) {
            Map<String, Integer> names = new HashMap<>();
            int[] next = new int[10];
            for (int s = 0; s < states; s++) {
                StringBuilder sight = new StringBuilder();
                for (int q = 0; q < 8; q++) {
                    sight.append(answer[q][s]).append('-').append(colour[behind[q][s]]).append(' ');
                }
                names.putIfAbsent(sight.toString(), names.size());
                next[s] = names.get(sight.toString());
            }
            colour = next;
        }
        return colour;
    }

    int classes(int what) {
        if (states == 0 || what != 100 && !isS(what)) {
            return -1;
        }
        int[] colour = colours();
        Set<Integer> all = new HashSet<>();
        int bits = 0;
        for (int s = 0; s < states; s++) {
            all.add(colour[s]);
            bits |= what != 100 && colour[s] == colour[what] ? 1 << s : 0;
        }
        return what == 100 ? all.size() : bits;
    }

    int parts(int s, int t, int what) {
        if (!isS(s) || !isS(t) || !in(0, what, 1)) {
            return -1;
        }
        // Pairs in the order of the least rows to them.
        Set<String> seen = new HashSet<>();
        List<int[]> pairs = new ArrayList<>();
        pairs.add(new int[] {s, t, 0, -1});
        for (int i = 0; i < pairs.size(); i++) {
            int[] at = pairs.get(i);
            for (int q = 0; q < 8; q++) {
                int first = at[3] < 0 ? q : at[3];
                if (answer[q][at[0]] != answer[q][at[1]]) {
                    return what == 0 ? at[2] + 1 : first;
                }
                if (seen.add(behind[q][at[0]] + " " + behind[q][at[1]])) {
                    pairs.add(new int[] {behind[q][at[0]], behind[q][at[1]], at[2] + 1, first});
                }
            }
        }
        return -2;
    }

    int known(int what) {
        if (states == 0 || !in(0, what, 2)) {
            return -1;
        }
        Map<TreeSet<Integer>, String> rows = new HashMap<>();
        TreeSet<Integer> all = new TreeSet<>();
        for (int s = 0; s < states; s++) {
            all.add(s);
        }
        rows.put(all, "");
        List<TreeSet<Integer>> level = new ArrayList<>(rows.keySet());
        while (!level.isEmpty()) {
            Map<TreeSet<Integer>, String> next = new HashMap<>();
            for (TreeSet<Integer> set : level) {
                for (int q = 0; q < 8; q++) {
                    TreeSet<Integer> image = new TreeSet<>();
                    for (int s : set) {
                        image.add(behind[q][s]);
                    }
                    String row = rows.get(set) + q;
                    if (!rows.containsKey(image)) {
                        next.merge(image, row, (a, b) -> a.compareTo(b) < 0 ? a : b);
                    }
                }
            }
            String least = null;
            int end = -1;
            for (Map.Entry<TreeSet<Integer>, String> each : next.entrySet()) {
                boolean sure = each.getKey().size() == 1;
                if (sure && (least == null || each.getValue().compareTo(least) < 0)) {
                    least = each.getValue();
                    end = each.getKey().first();
                }
            }
            if (least != null) {
                return what == 0 ? least.length() : what == 1 ? end : least.charAt(0) - '0';
            }
            rows.putAll(next);
            level = new ArrayList<>(next.keySet());
        }
        return -2;
    }

    /** Is the state of a set sure behind at most so many questions? */
    private boolean isSure(int set, int most, Map<Integer, Boolean> memo) {
        if (Integer.bitCount(set) == 1) {
            return true;
        }
        if (most == 0) {
            return false;
        }
        Boolean before = memo.get(most << 10 | set);
        if (before == null) {
            before = firstSure(set, most, memo) >= 0;
            memo.put(most << 10 | set, before);
        }
        return before;
    }

    private int firstSure(int set, int most, Map<Integer, Boolean> memo) {
        for (int q = 0; q < 8; q++) {
            boolean all = true;
            for (int a = 0; a < 10 && all; a++) {
                int group = 0;
                for (int s = 0; s < states; s++) {
                    group |= (set >> s & 1) != 0 && answer[q][s] == a ? 1 << behind[q][s] : 0;
                }
                all = group == 0 || isSure(group, most - 1, memo);
            }
            if (all) {
                return q;
            }
        }
        return -1;
    }

    int plan(int set, int what) {
        if (!in(1, set, (1 << states) - 1) || !in(0, what, 1)) {
            return -1;
        }
        if (Integer.bitCount(set) == 1) {
            return what == 0 ? 0 : -4;
        }
        Map<Integer, Boolean> memo = new HashMap<>();
        // Two states are sure or never within 45 + 9 questions, each of which brings one fewer.
        for (int most = 1; most < 120; most++) {
            int q = firstSure(set, most, memo);
            if (q >= 0) {
                return what == 0 ? most : q;
            }
        }
        return -2;
    }

    int logged(int n, int what) {
        if (!in(1, n, 20) || !in(0, what, 2) || tape.length() < 2 * n || states == 0) {
            return -1;
        }
        String log = cut(2 * n);
        int ahead = 0;
        int then = 0;
        int fewest = 99;
        for (int i = 0; i < n; i++) {
            if (log.charAt(2 * i) > 7 || log.charAt(2 * i + 1) > 9) {
                return -3;
            }
        }
        for (int s = 0; s < states; s++) {
            int[] at = {s, 0, 0, 0, 0, 0};
            int lies = 0;
            for (int i = 0; i < n; i++) {
                ask(at, log.charAt(2 * i));
                lies += at[1] == log.charAt(2 * i + 1) ? 0 : 1;
            }
            fewest = Math.min(fewest, lies);
            ahead |= lies == 0 ? 1 << s : 0;
            then |= lies == 0 ? 1 << at[0] : 0;
        }
        return what == 0 ? ahead : what == 1 ? then : fewest;
    }

    int next(int set, int what) {
        if (!in(1, set, (1 << states) - 1) || !in(0, what, 1)) {
            return -1;
        }
        int best = 99;
        int question = -1;
        for (int q = 7; q >= 0; q--) {
            int greatest = 0;
            for (int a = 0; a < 10; a++) {
                int group = 0;
                for (int s = 0; s < states; s++) {
                    group += (set >> s & 1) != 0 && answer[q][s] == a ? 1 : 0;
                }
                greatest = Math.max(greatest, group);
            }
            if (greatest <= best) {
                best = greatest;
                question = q;
            }
        }
        return what == 0 ? question : best;
    }

    int odds(int n, int wanted, int what) {
        if (!in(1, n, 20) || !in(0, wanted, 9) || !in(0, what, 1) || states == 0 || tape.length() < n + states) {
            return -1;
        }
        String text = cut(n + states);
        int above = 0;
        int below = 0;
        for (int i = 0; i < n + states; i++) {
            if (text.charAt(i) > (i < n ? 7 : 25)) {
                return -3;
            }
        }
        for (int s = 0; s < states; s++) {
            int[] at = {s, 0, 0, 0, 0, 0};
            for (int i = 0; i < n; i++) {
                ask(at, text.charAt(i));
            }
            below += text.charAt(n + s);
            above += at[1] == wanted ? text.charAt(n + s) : 0;
        }
        if (below == 0) {
            return -2;
        }
        int divisor = java.math.BigInteger.valueOf(above).gcd(java.math.BigInteger.valueOf(below)).intValue();
        return (what == 0 ? above : below) / divisor;
    }

    /** Who is on turn wins within so many questions: in how many; loses: less their number; 0: open yet. */
    private int play(int s, int last, int wanted, int within, Map<Integer, Integer> memo) {
        if (within == 0) {
            return 0;
        }
        int key = (within * 10 + s) * 9 + last;
        Integer before = memo.get(key);
        if (before != null) {
            return before;
        }
        int win = 0;
        int lose = 0;
        boolean escapes = false;
        for (int q = 0; q < 8; q++) {
            if (q == last) {
                continue;
            }
            int other = answer[q][s] == wanted ? 0 : play(behind[q][s], q, wanted, within - 1, memo);
            if (answer[q][s] == wanted) {
                win = 1;
            } else if (other < 0 && (win == 0 || 1 - other < win)) {
                win = 1 - other;
            } else if (other > 0) {
                lose = Math.max(lose, other + 1);
            } else if (other == 0) {
                escapes = true;
            }
        }
        int result = win > 0 ? win : escapes ? 0 : -lose;
        memo.put(key, result);
        return result;
    }

    int inspectors(int s, int wanted, int what) {
        if (!isS(s) || !in(0, wanted, 9) || !in(0, what, 1)) {
            return -1;
        }
        int result = play(s, 8, wanted, 100, new HashMap<>());
        return what == 1 ? Math.abs(result) : result > 0 ? 1 : result < 0 ? 2 : 0;
    }

    int together(int q, int r, int s) {
        if (!isQ(q) || !isQ(r) || !isS(s)) {
            return -1;
        }
        String alone = answer[q][s] + " " + answer[r][s] + " ";
        return (both(q, r, s, false).startsWith(alone) ? 1 : 0) + (both(q, r, s, true).startsWith(alone) ? 2 : 0);
    }

    int alone(int what) {
        if (states == 0 || !in(0, what, 1)) {
            return -1;
        }
        int bits = 0;
        for (int s = 0; s < states; s++) {
            boolean none = true;
            for (int t = 0; t < states; t++) {
                for (int q = 0; q < 8; q++) {
                    int from = what == 0 ? t : s;
                    int to = what == 0 ? s : t;
                    none &= from == to || behind[q][from] != to;
                }
            }
            bits |= none ? 1 << s : 0;
        }
        return bits;
    }

    int check(int q, int n) {
        if (!isQ(q) || !in(0, n, 10) || n > tape.length()) {
            return -2;
        }
        String text = cut(n);
        for (int i = 0; i < n; i++) {
            if (text.charAt(i) != (i < states ? answer[q][i] : 255)) {
                return i;
            }
        }
        return -1;
    }
}
