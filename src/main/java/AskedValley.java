import java.util.Arrays;

/**
 * A valley whose people change by being asked, its censuses and its inspector.
 * Every row that a call needs is made with the object and used again, so that a run of calls makes nothing more.
 */
public final class AskedValley {

    /** There is none. */
    public static final int NONE = -1;

    private static final int NO_WAY = -2;
    private static final int WRONG_BYTE = -3;
    private static final int NO_PLACE = -4;

    private static final int QUESTIONS = 8;
    private static final int MOST_STATES = 10;
    private static final int CELLS = QUESTIONS * MOST_STATES;
    private static final int SETS = 1 << MOST_STATES;
    private static final int MOST_ANSWER = 9;
    private static final int MOST_PRICE = 99;
    private static final int MOST_PURSE = 9999;
    private static final int MOST_ASKED = 9999;
    private static final int MOST_SUM = 99999;
    private static final int MOST_DAY = 9999;
    private static final int MOST_DAYS = 100;
    private static final int MOST_SEED = 65535;

    private static final int MOST_TAPE = 260;
    private static final int FED = 20;
    private static final int MOST_LAW = 240;
    private static final int MOST_VALLEY = 220;
    private static final int MOST_CENSUS = 60;
    private static final int MOST_ROW = 40;
    private static final int MOST_FORM = 10;
    private static final int MOST_LOGGED = 20;
    private static final int MOST_ODDS = 20;
    private static final int MOST_WEIGHT = 25;
    private static final int NO_STATE_BYTE = 255;
    private static final int WHOLE = 100;
    private static final int END = -1;

    private static final int FAULT_SIGN = 1;
    private static final int FAULT_DIGIT = 2;
    private static final int FAULT_NUMBER = 3;
    private static final int FAULT_RULES = 4;
    private static final int FAULT_DEEP = 5;
    private static final int FAULT_MORE = 6;
    private static final int FAULT_TWICE = 7;

    private final Tape tape;
    private final int[] prices;
    private final Standing now;
    private final Standing kept;
    private final Standing trial;
    private boolean anyKept;
    private Valley people;
    private Valley peopleDraft;
    private Law rules;
    private Law rulesDraft;
    private final Row row;
    private final Inspector inspector;
    private final Ways ways;
    private final Sets sets;

    public AskedValley() {
        tape = new Tape();
        prices = new int[QUESTIONS];
        Arrays.fill(prices, 1);
        now = new Standing();
        kept = new Standing();
        trial = new Standing();
        people = new Valley();
        peopleDraft = new Valley();
        rules = new Law();
        rulesDraft = new Law();
        row = new Row();
        inspector = new Inspector();
        ways = new Ways();
        sets = new Sets();
    }

    public boolean state(int s) {
        if (!people.has(s)) {
            return false;
        }
        now.state = s;
        return true;
    }

    public boolean price(int q, int v) {
        if (!isQuestion(q) || v < 0 || v > MOST_PRICE) {
            return false;
        }
        prices[q] = v;
        return true;
    }

    public boolean purse(int v) {
        if (v < 0 || v > MOST_PURSE) {
            return false;
        }
        now.purse = v;
        return true;
    }

    public int feed(int a, int b, int c, int d, int e) {
        if (tape.size + FED > MOST_TAPE) {
            return NONE;
        }
        tape.append(a);
        tape.append(b);
        tape.append(c);
        tape.append(d);
        tape.append(e);
        return tape.size;
    }

    public int law(int n) {
        if (!isOnTape(n, MOST_LAW)) {
            return NONE;
        }
        tape.open(n);
        LawReader.read(tape, rulesDraft);
        tape.clear();
        if (tape.fault != 0) {
            return tape.fault;
        }
        Law before = rules;
        rules = rulesDraft;
        rulesDraft = before;
        return rules.count;
    }

    public int valley(int n) {
        if (!isOnTape(n, MOST_VALLEY)) {
            return NONE;
        }
        tape.open(n);
        ValleyReader.read(tape, peopleDraft);
        tape.clear();
        if (tape.fault != 0) {
            return tape.fault;
        }
        Valley before = people;
        people = peopleDraft;
        peopleDraft = before;
        now.state = 0;
        now.lastAnswer = 0;
        now.lastQuestion = QUESTIONS;
        return people.states;
    }

    public int census(int n) {
        if (!isOnTape(n, MOST_CENSUS) || !people.isTold()) {
            return NONE;
        }
        int fault = readRow(n);
        if (fault != 0) {
            return fault;
        }
        for (int i = 0; i < row.length; i++) {
            now.ask(people, row.at(i));
        }
        return now.lastAnswer;
    }

    public int look(int n, int what) {
        boolean isWhat = what >= 0 && what < MOST_ROW || what >= WHOLE && what <= WHOLE + 4;
        if (!isWhat || !isOnTape(n, MOST_CENSUS) || !people.isTold()) {
            return NONE;
        }
        int fault = readRow(n);
        if (fault != 0) {
            return fault;
        }
        if (what < WHOLE && what >= row.length) {
            return NO_PLACE;
        }
        return lookAlong(what);
    }

    public int days(int n) {
        if (n < 1 || n > MOST_DAYS) {
            return NONE;
        }
        inspector.goThrough(n, now, people, rules, prices);
        return inspector.questions;
    }

    public int tried(int n, int what) {
        if (n < 1 || n > MOST_DAYS || what < 0 || what > 5) {
            return NONE;
        }
        trial.copyFrom(now);
        inspector.goThrough(n, trial, people, rules, prices);
        switch (what) {
            case 0:
                return inspector.questions;
            case 1:
                return inspector.answers;
            case 2:
                return trial.purse;
            case 3:
                return trial.state;
            case 4:
                return trial.lastAnswer;
            default:
                return trial.lastQuestion;
        }
    }

    public int askedAt(int q, int s, int what) {
        if (!isQuestion(q) || !people.has(s) || !isZeroOrOne(what)) {
            return NONE;
        }
        return what == 0 ? people.answer(q, s) : people.behind(q, s);
    }

    public int changePlaces(int q, int r) {
        if (!isQuestion(q) || !isQuestion(r) || !people.isTold()) {
            return NONE;
        }
        return people.maySwap(q, r) ? 1 : 0;
    }

    public int forms(int n, int what) {
        boolean isWhat = what == WHOLE || what >= 0 && what < n;
        if (!isWhat || !isOnTape(n, MOST_FORM) || !people.isTold()) {
            return NONE;
        }
        boolean right = tape.isBelow(0, n, QUESTIONS);
        if (right) {
            sets.orderForms(people, tape, n);
        }
        tape.clear();
        if (!right) {
            return WRONG_BYTE;
        }
        return what == WHOLE ? sets.countForms(n) : sets.firstForm(n, what);
    }

    public int leads(int s, int t, int what) {
        if (!people.has(s) || !people.has(t) || !isZeroOrOne(what)) {
            return NONE;
        }
        int far = ways.steps(people, s, t);
        if (far < 0 || what == 0) {
            return far;
        }
        return far == 0 ? NO_PLACE : ways.firstStep(people, s);
    }

    public int back(int q, int s) {
        if (!isQuestion(q) || !people.has(s)) {
            return NONE;
        }
        return ways.steps(people, people.behind(q, s), s);
    }

    public int cheapest(int s, int t) {
        if (!people.has(s) || !people.has(t)) {
            return NONE;
        }
        return ways.cost(people, prices, s, t);
    }

    public int classes(int what) {
        if (!people.isTold() || what != WHOLE && !people.has(what)) {
            return NONE;
        }
        ways.tellApart(people);
        return what == WHOLE ? ways.countAlike(people) : ways.alike(people, what);
    }

    public int parts(int s, int t, int what) {
        if (!people.has(s) || !people.has(t) || !isZeroOrOne(what)) {
            return NONE;
        }
        ways.tellApart(people);
        int fewest = ways.apartBy(s, t);
        if (fewest == 0) {
            return NO_WAY;
        }
        return what == 0 ? fewest : ways.firstApart(people, s, t, fewest);
    }

    public int known(int what) {
        if (what < 0 || what > 2 || !people.isTold()) {
            return NONE;
        }
        return sets.meet(people, what);
    }

    public int plan(int states, int what) {
        if (!people.hasAll(states) || !isZeroOrOne(what)) {
            return NONE;
        }
        int fewest = sets.makeSure(people, states);
        if (fewest < 0 || what == 0) {
            return fewest;
        }
        return fewest == 0 ? NO_PLACE : sets.firstSure(people, states, fewest);
    }

    public int logged(int n, int what) {
        boolean isWhat = what >= 0 && what <= 2;
        if (!isWhat || n < 1 || n > MOST_LOGGED || tape.size < 2 * n || !people.isTold()) {
            return NONE;
        }
        int answer = tape.isLog(n) ? sets.fitLog(people, tape, n, what) : WRONG_BYTE;
        tape.clear();
        return answer;
    }

    public int next(int states, int what) {
        if (!people.hasAll(states) || !isZeroOrOne(what)) {
            return NONE;
        }
        return sets.bestSplit(people, states, what);
    }

    public int odds(int n, int answer, int what) {
        boolean areSuch = n >= 1 && n <= MOST_ODDS && answer >= 0 && answer <= MOST_ANSWER && isZeroOrOne(what);
        if (!areSuch || !people.isTold() || tape.size < n + people.states) {
            return NONE;
        }
        boolean right = tape.isBelow(0, n, QUESTIONS)
                && tape.isBelow(n, n + people.states, MOST_WEIGHT + 1);
        int part = right ? sets.share(people, tape, n, answer, what) : WRONG_BYTE;
        tape.clear();
        return part;
    }

    public int inspectors(int s, int answer, int what) {
        if (!people.has(s) || answer < 0 || answer > MOST_ANSWER || !isZeroOrOne(what)) {
            return NONE;
        }
        int fewest = ways.play(people, s, answer);
        if (what == 1 || fewest == 0) {
            return fewest;
        }
        return fewest % 2 == 1 ? 1 : 2;
    }

    public int together(int q, int r, int s) {
        if (!isQuestion(q) || !isQuestion(r) || !people.has(s)) {
            return NONE;
        }
        int first = people.keepsAnswer(q, r, s) ? 1 : 0;
        int second = people.keepsAnswer(r, q, s) ? 2 : 0;
        return first + second;
    }

    public int alone(int what) {
        if (!isZeroOrOne(what) || !people.isTold()) {
            return NONE;
        }
        return what == 0 ? people.loose() : people.ends();
    }

    public boolean seed(int x) {
        if (x < 0 || x > MOST_SEED) {
            return false;
        }
        now.x = x;
        return true;
    }

    public int keep() {
        kept.copyFrom(now);
        anyKept = true;
        return now.day;
    }

    public boolean undo() {
        if (!anyKept) {
            return false;
        }
        now.copyFrom(kept);
        if (!people.has(now.state)) {
            now.state = 0;
        }
        return true;
    }

    public int check(int q, int n) {
        if (!isQuestion(q) || n < 0 || n > MOST_STATES || tape.size < n) {
            return NO_WAY;
        }
        int wrong = NONE;
        for (int i = 0; i < n && wrong == NONE; i++) {
            int due = people.has(i) ? people.answer(q, i) : NO_STATE_BYTE;
            if (tape.byteAt(i) != due) {
                wrong = i;
            }
        }
        tape.clear();
        return wrong;
    }

    public int count(int what) {
        switch (what) {
            case 0:
                return now.day;
            case 1:
                return people.states;
            case 2:
                return now.state;
            case 3:
                return now.lastAnswer;
            case 4:
                return now.lastQuestion;
            case 5:
                return now.purse;
            case 6:
                return now.asked;
            case 7:
                return now.sum;
            case 8:
                return rules.count;
            case 9:
                return tape.size;
            case 10:
                return now.x;
            default:
                return NONE;
        }
    }

    private static boolean isQuestion(int q) {
        return q >= 0 && q < QUESTIONS;
    }

    private static boolean isZeroOrOne(int what) {
        return what == 0 || what == 1;
    }

    private boolean isOnTape(int n, int most) {
        return n >= 1 && n <= most && n <= tape.size;
    }

    /** The row of a census; its fault, or 0. */
    private int readRow(int n) {
        tape.open(n);
        CensusReader.read(tape, row);
        tape.clear();
        return tape.fault;
    }

    private int lookAlong(int what) {
        int s = now.state;
        int answer = 0;
        int sum = 0;
        int seen = 1 << s;
        // A place is asked of the row as far as that place alone.
        int length = what < WHOLE ? what + 1 : row.length;
        for (int i = 0; i < length; i++) {
            int q = row.at(i);
            answer = people.answer(q, s);
            s = people.behind(q, s);
            sum += answer;
            seen |= 1 << s;
        }
        switch (what) {
            case WHOLE + 1:
                return s;
            case WHOLE + 2:
                return sum;
            case WHOLE + 3:
                return row.length;
            case WHOLE + 4:
                return seen;
            default:
                return answer;
        }
    }

    /** The bytes that were fed, and a cursor over the first of them that are read as a text. */
    private static final class Tape {
        private final int[] bytes = new int[MOST_TAPE];
        private int size;
        private int place;
        private int end;
        // The byte at the place, END behind the last one.
        private int sign;
        private int fault;

        void append(int four) {
            for (int shift = 24; shift >= 0; shift -= 8) {
                if (size < MOST_TAPE) {
                    bytes[size] = four >>> shift & 255;
                    size++;
                }
            }
        }

        void clear() {
            size = 0;
        }

        int byteAt(int i) {
            return i >= 0 && i < size ? bytes[i] : END;
        }

        /** Are all bytes from the first to ahead of the last below the bound? */
        boolean isBelow(int from, int to, int bound) {
            for (int i = from; i < to; i++) {
                if (byteAt(i) >= bound) {
                    return false;
                }
            }
            return true;
        }

        /** Are the first n pairs of bytes each a question and an answer? */
        boolean isLog(int n) {
            for (int i = 0; i < n; i++) {
                if (byteAt(2 * i) >= QUESTIONS || byteAt(2 * i + 1) > MOST_ANSWER) {
                    return false;
                }
            }
            return true;
        }

        void open(int n) {
            place = 0;
            end = Math.min(n, size);
            sign = byteAt(0);
            fault = 0;
        }

        void step() {
            place++;
            sign = place >= 0 && place < end && place < MOST_TAPE ? bytes[place] : END;
        }

        boolean isDigit() {
            return sign >= '0' && sign <= '9';
        }

        /** Answers false, so that readers can hand it on. */
        boolean fail(int number, int where) {
            fault = -1000 * number - where;
            return false;
        }

        boolean take(int wanted) {
            if (sign != wanted) {
                return fail(FAULT_SIGN, place);
            }
            step();
            return true;
        }
    }

    /** What days and censuses change, and what is kept and undone. */
    private static final class Standing {
        private int state;
        private int lastAnswer;
        private int lastQuestion = QUESTIONS;
        private int purse = 999;
        private int asked;
        private int sum;
        private int day;
        private int x = 1;

        void copyFrom(Standing other) {
            state = other.state;
            lastAnswer = other.lastAnswer;
            lastQuestion = other.lastQuestion;
            purse = other.purse;
            asked = other.asked;
            sum = other.sum;
            day = other.day;
            x = other.x;
        }

        void ask(Valley people, int q) {
            lastAnswer = people.answer(q, state);
            lastQuestion = q;
            state = people.behind(q, state);
            asked = Math.min(MOST_ASKED, asked + 1);
            sum = Math.min(MOST_SUM, sum + lastAnswer);
        }

        int draw() {
            x = 25173 * x + 13849 & MOST_SEED;
            return x % 10;
        }
    }

    /** The states and what each question answers and leaves there; without states there is no valley. */
    private static final class Valley {
        private int states;
        private final int[] answers = new int[CELLS];
        private final int[] nexts = new int[CELLS];

        void clear() {
            states = 0;
            for (int cell = 0; cell < CELLS; cell++) {
                answers[cell] = 0;
                nexts[cell] = cell % MOST_STATES;
            }
        }

        void tell(int q, int s, int next, int answer) {
            int cell = q * MOST_STATES + s;
            if (cell >= 0 && cell < CELLS) {
                answers[cell] = answer;
                nexts[cell] = next;
            }
        }

        boolean isTold() {
            return states > 0;
        }

        boolean has(int s) {
            return s >= 0 && s < states;
        }

        int everyState() {
            return (1 << states) - 1;
        }

        boolean hasAll(int bits) {
            return bits > 0 && bits <= everyState();
        }

        int answer(int q, int s) {
            int cell = q * MOST_STATES + s;
            return cell >= 0 && cell < CELLS ? answers[cell] : 0;
        }

        int behind(int q, int s) {
            int cell = q * MOST_STATES + s;
            return cell >= 0 && cell < CELLS ? nexts[cell] : 0;
        }

        /** Does the second question answer behind the first one as it would have answered alone? */
        boolean keepsAnswer(int first, int second, int s) {
            return answer(second, behind(first, s)) == answer(second, s);
        }

        boolean maySwap(int q, int r) {
            // One with itself may, though its answer may change by being asked.
            if (q == r) {
                return true;
            }
            for (int s = 0; s < states; s++) {
                boolean sameState = behind(r, behind(q, s)) == behind(q, behind(r, s));
                if (!sameState || !keepsAnswer(q, r, s) || !keepsAnswer(r, q, s)) {
                    return false;
                }
            }
            return true;
        }

        /** The questions that leave a state or tell two states apart at once (bits). */
        int telling() {
            int bits = 0;
            for (int q = 0; q < QUESTIONS; q++) {
                for (int s = 0; s < states; s++) {
                    if (behind(q, s) != s || answer(q, s) != answer(q, 0)) {
                        bits |= 1 << q;
                    }
                }
            }
            return bits;
        }

        int loose() {
            int bits = everyState();
            for (int q = 0; q < QUESTIONS; q++) {
                for (int s = 0; s < states; s++) {
                    if (behind(q, s) != s) {
                        bits &= ~(1 << behind(q, s));
                    }
                }
            }
            return bits;
        }

        int ends() {
            int bits = everyState();
            for (int q = 0; q < QUESTIONS; q++) {
                for (int s = 0; s < states; s++) {
                    if (behind(q, s) != s) {
                        bits &= ~(1 << s);
                    }
                }
            }
            return bits;
        }
    }

    /** Reads the text of a valley; the tape tells the fault. */
    private static final class ValleyReader {

        static boolean read(Tape text, Valley into) {
            into.clear();
            if (!readStates(text, into)) {
                return false;
            }
            int told = 0;
            // A ninth line can't be: its letter would have been told.
            for (int line = 0; line <= QUESTIONS && text.sign != END; line++) {
                if (!text.take(';')) {
                    return false;
                }
                int q = text.sign - 'a';
                if (!isQuestion(q)) {
                    return text.fail(FAULT_SIGN, text.place);
                }
                if ((told >> q & 1) != 0) {
                    return text.fail(FAULT_MORE, text.place);
                }
                told |= 1 << q;
                text.step();
                if (!text.take(':') || !readLine(text, into, q)) {
                    return false;
                }
            }
            return true;
        }

        private static boolean readStates(Tape text, Valley into) {
            if (!text.isDigit()) {
                return text.fail(FAULT_SIGN, text.place);
            }
            int number = text.sign - '0';
            text.step();
            if (text.isDigit()) {
                number = number * 10 + text.sign - '0';
                text.step();
            }
            if (text.isDigit()) {
                return text.fail(FAULT_DIGIT, text.place);
            }
            if (number < 2 || number > MOST_STATES) {
                return text.fail(FAULT_NUMBER, 0);
            }
            into.states = number;
            return true;
        }

        private static boolean readLine(Tape text, Valley into, int q) {
            int untold = into.everyState();
            boolean starred = false;
            // Each rule tells a state or all that are left, so there are fewer rules than this.
            for (int rule = 0; rule <= MOST_STATES + 1; rule++) {
                boolean star = text.sign == '*';
                if (!star && !readsState(text, into)) {
                    return false;
                }
                int told = star ? untold : 1 << text.sign - '0';
                if (starred || (told & untold) != told) {
                    return text.fail(FAULT_TWICE, text.place);
                }
                starred = star;
                untold &= ~told;
                text.step();
                if (!readOutcome(text, into, q, told)) {
                    return false;
                }
                if (text.sign != ',') {
                    return true;
                }
                text.step();
            }
            return text.fail(FAULT_TWICE, text.place);
        }

        /** Stands a state there? (The cursor stays at it.) */
        private static boolean readsState(Tape text, Valley into) {
            if (!text.isDigit()) {
                return text.fail(FAULT_SIGN, text.place);
            }
            return into.has(text.sign - '0') || text.fail(FAULT_NUMBER, text.place);
        }

        private static boolean readOutcome(Tape text, Valley into, int q, int told) {
            if (!text.take('>')) {
                return false;
            }
            boolean stays = text.sign == '.';
            if (!stays && !readsState(text, into)) {
                return false;
            }
            int next = text.sign - '0';
            text.step();
            if (!text.take('=')) {
                return false;
            }
            if (!text.isDigit()) {
                return text.fail(FAULT_SIGN, text.place);
            }
            int answer = text.sign - '0';
            text.step();
            for (int s = 0; s < MOST_STATES; s++) {
                if ((told >> s & 1) != 0) {
                    into.tell(q, s, stays ? s : next, answer);
                }
            }
            return true;
        }
    }

    /** The questions of a census, one behind the other. */
    private static final class Row {
        private final int[] questions = new int[MOST_ROW];
        private int length;

        int at(int i) {
            return i >= 0 && i < MOST_ROW ? questions[i] : 0;
        }

        void add(int q) {
            if (length >= 0 && length < MOST_ROW) {
                questions[length] = q;
                length++;
            }
        }
    }

    /** Reads the text of a census; the tape tells the fault. */
    private static final class CensusReader {
        private static final int MOST_OPEN = 2;

        static boolean read(Tape text, Row into) {
            into.length = 0;
            return readQuestions(text, into, 0);
        }

        private static boolean readQuestions(Tape text, Row into, int open) {
            // Each turn takes a byte at least.
            for (int turn = 0; turn <= MOST_CENSUS; turn++) {
                if (!readItem(text, into, open)) {
                    return false;
                }
                if (text.sign == END || open > 0 && text.sign == ')') {
                    return true;
                }
            }
            return text.fail(FAULT_SIGN, text.place);
        }

        private static boolean readItem(Tape text, Row into, int open) {
            int start = text.place;
            int from = into.length;
            int times = 1;
            if (text.sign >= '2' && text.sign <= '9') {
                times = text.sign - '0';
                text.step();
            }
            int q = text.sign - 'a';
            if (isQuestion(q)) {
                text.step();
                // What would be too long is told below, by the length alone.
                into.add(q);
            } else if (text.sign == '(') {
                if (open >= MOST_OPEN) {
                    return text.fail(FAULT_DEEP, text.place);
                }
                text.step();
                if (!readQuestions(text, into, open + 1) || !text.take(')')) {
                    return false;
                }
            } else {
                return text.fail(FAULT_SIGN, text.place);
            }
            int once = Math.max(1, into.length - from);
            if (from + once * times > MOST_ROW) {
                return text.fail(FAULT_MORE, start);
            }
            for (int i = once; i < once * times; i++) {
                into.add(into.at(from + i % once));
            }
            return true;
        }
    }

    /** The rules of the inspector, as a code whose jumps all lead forward. */
    private static final class Law {
        private static final int MOST_RULES = 16;
        // Each instruction comes of a byte of its own.
        private static final int MOST_CODE = MOST_LAW + 16;
        private static final int STACK = 64;

        private static final int STOP = 0;
        private static final int NUMBER = 1;
        private static final int LETTER = 2;
        private static final int NOT = 3;
        private static final int SKIP_IF_TRUE = 4;
        private static final int SKIP_IF_FALSE = 5;

        private int count;
        private final int[] kinds = new int[MOST_RULES];
        private final int[] numberStarts = new int[MOST_RULES];
        private final int[] testStarts = new int[MOST_RULES];
        private int size;
        private final int[] signs = new int[MOST_CODE];
        private final int[] details = new int[MOST_CODE];
        private final int[] stack = new int[STACK];
        private int height;
        private boolean refused;

        void clear() {
            count = 0;
            size = 0;
        }

        boolean isFull() {
            return count >= MOST_RULES;
        }

        void beginRule(int kind) {
            if (count >= 0 && count < MOST_RULES) {
                kinds[count] = kind;
                numberStarts[count] = size;
                testStarts[count] = size;
                count++;
            }
        }

        void beginTest() {
            if (count > 0 && count <= MOST_RULES) {
                testStarts[count - 1] = size;
            }
        }

        /** Adds an instruction: where it stands. */
        int add(int sign, int detail) {
            if (size >= 0 && size < MOST_CODE) {
                signs[size] = sign;
                details[size] = detail;
                size++;
            }
            return size - 1;
        }

        /** Lets a chain of skips, each of which tells the one before it, lead to what comes next. */
        void land(int last) {
            int skip = last;
            for (int left = size; left > 0 && skip >= 0 && skip < MOST_CODE; left--) {
                int before = details[skip];
                details[skip] = size;
                skip = before;
            }
        }

        /** The number of the first rule of the kind whose test holds, within 0 and the bound; none: 0. */
        int firstNumber(int kind, int[] letters, int most) {
            for (int r = 0; r < count && r < MOST_RULES; r++) {
                if (kinds[r] == kind && isHeld(r, letters)) {
                    int number = reckon(numberStarts[r], letters);
                    return refused ? 0 : Math.max(0, Math.min(most, number));
                }
            }
            return 0;
        }

        boolean holdsAny(int kind, int[] letters) {
            for (int r = 0; r < count && r < MOST_RULES; r++) {
                if (kinds[r] == kind && isHeld(r, letters)) {
                    return true;
                }
            }
            return false;
        }

        private boolean isHeld(int r, int[] letters) {
            boolean known = r >= 0 && r < MOST_RULES;
            return known && reckon(testStarts[r], letters) != 0 && !refused;
        }

        private int reckon(int start, int[] letters) {
            height = 0;
            refused = false;
            for (int i = Math.max(0, start); i < size && i < MOST_CODE && !refused; i++) {
                int detail = details[i];
                switch (signs[i]) {
                    case STOP:
                        return pop();
                    case NUMBER:
                        push(detail);
                        break;
                    case LETTER:
                        push(detail >= 0 && detail < letters.length ? letters[detail] : 0);
                        break;
                    case NOT:
                        push(1 - pop());
                        break;
                    case SKIP_IF_TRUE:
                    case SKIP_IF_FALSE:
                        int held = pop();
                        if (held != 0 == (signs[i] == SKIP_IF_TRUE)) {
                            push(held);
                            i = Math.max(i, detail - 1);
                        }
                        break;
                    default:
                        int right = pop();
                        push(join(signs[i], pop(), right));
                        break;
                }
            }
            return 0;
        }

        private int join(int sign, int left, int right) {
            switch (sign) {
                case '+':
                    return left + right;
                case '-':
                    return left - right;
                case '*':
                    return left * right;
                case '/':
                case '%':
                    if (right == 0) {
                        refused = true;
                        return 0;
                    }
                    return sign == '/' ? left / right : left % right;
                case '<':
                    return left < right ? 1 : 0;
                case '>':
                    return left > right ? 1 : 0;
                default:
                    return left == right ? 1 : 0;
            }
        }

        private void push(int value) {
            if (height >= 0 && height < STACK) {
                stack[height] = value;
                height++;
            }
        }

        private int pop() {
            if (height <= 0 || height > STACK) {
                return 0;
            }
            height--;
            return stack[height];
        }
    }

    /** Reads the text of a law; the tape tells the fault. */
    private static final class LawReader {
        private static final String LETTERS = "qalpbnstw";
        private static final int MOST_OPEN = 6;
        private static final int MOST_DIGITS = 5;

        static boolean read(Tape text, Law into) {
            into.clear();
            for (int r = 0; r <= Law.MOST_RULES; r++) {
                if (!readRule(text, into)) {
                    return false;
                }
                if (text.sign == END) {
                    return true;
                }
                if (!text.take(';')) {
                    return false;
                }
            }
            return text.fail(FAULT_RULES, text.place);
        }

        private static boolean readRule(Tape text, Law into) {
            int kind = text.sign;
            if (kind != 'e' && kind != 'g' && kind != 'x') {
                return text.fail(FAULT_SIGN, text.place);
            }
            if (into.isFull()) {
                return text.fail(FAULT_RULES, text.place);
            }
            text.step();
            into.beginRule(kind);
            if (kind != 'x') {
                if (!readNumber(text, into, 0, false)) {
                    return false;
                }
                into.add(Law.STOP, 0);
            }
            into.beginTest();
            if (!text.take('(') || !readCondition(text, into, 1, false) || !text.take(')')) {
                return false;
            }
            into.add(Law.STOP, 0);
            return true;
        }

        /** Parts with | between them; if it is tight, one part: tests with an & between them. */
        private static boolean readCondition(Tape text, Law into, int open, boolean tight) {
            int between = tight ? '&' : '|';
            int skip = tight ? Law.SKIP_IF_FALSE : Law.SKIP_IF_TRUE;
            int last = NONE;
            // Each turn takes a byte at least.
            for (int turn = 0; turn <= MOST_LAW; turn++) {
                boolean read = tight ? readTest(text, into, open) : readCondition(text, into, open, true);
                if (!read) {
                    return false;
                }
                if (text.sign != between) {
                    into.land(last);
                    return true;
                }
                text.step();
                last = into.add(skip, last);
            }
            return text.fail(FAULT_SIGN, text.place);
        }

        private static boolean readTest(Tape text, Law into, int open) {
            int first = text.sign;
            if (first == '!' || first == '(') {
                if (open >= MOST_OPEN) {
                    return text.fail(FAULT_DEEP, text.place);
                }
                text.step();
                if (first == '(') {
                    return readCondition(text, into, open + 1, false) && text.take(')');
                }
                if (!readTest(text, into, open + 1)) {
                    return false;
                }
                into.add(Law.NOT, 0);
                return true;
            }
            if (!readNumber(text, into, open, false)) {
                return false;
            }
            int sign = text.sign;
            if (sign != '<' && sign != '>' && sign != '=') {
                return text.fail(FAULT_SIGN, text.place);
            }
            text.step();
            if (!readNumber(text, into, open, false)) {
                return false;
            }
            into.add(sign, 0);
            return true;
        }

        /** Terms with + or - between them; if it is tight, one term: factors with * / or % between them. */
        private static boolean readNumber(Tape text, Law into, int open, boolean tight) {
            int before = 0;
            // Each turn takes a byte at least.
            for (int turn = 0; turn <= MOST_LAW; turn++) {
                boolean read = tight ? readFactor(text, into, open) : readNumber(text, into, open, true);
                if (!read) {
                    return false;
                }
                if (turn > 0) {
                    into.add(before, 0);
                }
                before = text.sign;
                boolean isTight = before == '*' || before == '/' || before == '%';
                boolean isLoose = before == '+' || before == '-';
                if (!(tight ? isTight : isLoose)) {
                    return true;
                }
                text.step();
            }
            return text.fail(FAULT_SIGN, text.place);
        }

        private static boolean readFactor(Tape text, Law into, int open) {
            if (text.sign == '[') {
                if (open >= MOST_OPEN) {
                    return text.fail(FAULT_DEEP, text.place);
                }
                text.step();
                return readNumber(text, into, open + 1, false) && text.take(']');
            }
            if (!text.isDigit()) {
                int letter = text.sign == END ? NONE : LETTERS.indexOf((char) text.sign);
                if (letter < 0) {
                    return text.fail(FAULT_SIGN, text.place);
                }
                text.step();
                into.add(Law.LETTER, letter);
                return true;
            }
            int number = 0;
            for (int digits = 0; digits < MOST_DIGITS && text.isDigit(); digits++) {
                number = number * 10 + text.sign - '0';
                text.step();
            }
            into.add(Law.NUMBER, number);
            return !text.isDigit() || text.fail(FAULT_DIGIT, text.place);
        }
    }

    /** Goes through days by a law, and counts what was asked and answered in them. */
    private static final class Inspector {
        private static final int MOST_LIKING = 9999;
        private static final int MOST_GIVEN = 99;

        // In the order of the letters of the law's reader.
        private final int[] letters = new int[9];
        private int questions;
        private int answers;

        void goThrough(int n, Standing standing, Valley people, Law rules, int[] prices) {
            questions = 0;
            answers = 0;
            for (int i = 0; i < n && standing.day < MOST_DAY; i++) {
                int draw = standing.draw();
                int q = people.isTold() ? mostLiked(standing, draw, rules, prices) : NONE;
                if (isQuestion(q)) {
                    standing.purse -= prices[q];
                    standing.ask(people, q);
                    questions++;
                    answers += standing.lastAnswer;
                    setLetters(standing, draw);
                    setQuestion(q, prices[q]);
                    int given = rules.firstNumber('g', letters, MOST_GIVEN);
                    standing.purse = Math.min(MOST_PURSE, standing.purse + given);
                }
                standing.day++;
            }
        }

        private int mostLiked(Standing standing, int draw, Law rules, int[] prices) {
            setLetters(standing, draw);
            int best = NONE;
            int most = 0;
            for (int q = 0; q < QUESTIONS && q < prices.length; q++) {
                if (prices[q] <= standing.purse) {
                    setQuestion(q, prices[q]);
                    int liking = rules.firstNumber('e', letters, MOST_LIKING);
                    if (liking > most && !rules.holdsAny('x', letters)) {
                        best = q;
                        most = liking;
                    }
                }
            }
            return best;
        }

        private void setLetters(Standing standing, int draw) {
            letters[1] = standing.lastAnswer;
            letters[2] = standing.lastQuestion;
            letters[4] = standing.purse;
            letters[5] = standing.asked % 100;
            letters[6] = standing.sum % 100;
            letters[7] = standing.day % 100;
            letters[8] = draw;
        }

        private void setQuestion(int q, int price) {
            letters[0] = q;
            letters[3] = price;
        }
    }

    /** What is asked of single states and of pairs of them: ways, what tells them apart, the game by turns. */
    private static final class Ways {
        private static final int FAR = 99999;
        private static final int PAIRS = MOST_STATES * MOST_STATES;
        private static final int LASTS = QUESTIONS + 1;
        private static final int POSITIONS = MOST_STATES * LASTS;

        private final int[] ones = {1, 1, 1, 1, 1, 1, 1, 1};
        private final int[] costs = new int[MOST_STATES];
        private final int[] apart = new int[PAIRS];
        private final int[] ending = new int[POSITIONS];

        int steps(Valley people, int s, int t) {
            return cost(people, ones, s, t);
        }

        int cost(Valley people, int[] prices, int s, int t) {
            fillCosts(people, prices, t);
            int cost = costFrom(s);
            return cost == FAR ? NO_WAY : cost;
        }

        /** Behind steps: the lowest question that is one step nearer. */
        int firstStep(Valley people, int s) {
            for (int q = 0; q < QUESTIONS; q++) {
                if (costFrom(people.behind(q, s)) + 1 == costFrom(s)) {
                    return q;
                }
            }
            return NONE;
        }

        private int costFrom(int s) {
            return s >= 0 && s < MOST_STATES ? costs[s] : FAR;
        }

        private void fillCosts(Valley people, int[] prices, int t) {
            Arrays.fill(costs, FAR);
            if (t < 0 || t >= MOST_STATES) {
                return;
            }
            costs[t] = 0;
            boolean changed = true;
            for (int round = 0; round < MOST_STATES && changed; round++) {
                changed = false;
                for (int s = 0; s < people.states && s < MOST_STATES; s++) {
                    for (int q = 0; q < QUESTIONS && q < prices.length; q++) {
                        int cost = costFrom(people.behind(q, s)) + prices[q];
                        if (cost < costs[s]) {
                            costs[s] = cost;
                            changed = true;
                        }
                    }
                }
            }
        }

        /** By how many questions two states are told apart; 0: by none. */
        int apartBy(int s, int t) {
            int pair = s * MOST_STATES + t;
            return pair >= 0 && pair < PAIRS ? apart[pair] : 0;
        }

        void tellApart(Valley people) {
            Arrays.fill(apart, 0);
            boolean changed = true;
            for (int round = 1; round < MOST_STATES && changed; round++) {
                changed = false;
                for (int pair = 0; pair < PAIRS; pair++) {
                    int s = pair / MOST_STATES;
                    int t = pair % MOST_STATES;
                    boolean open = s < t && t < people.states && apart[pair] == 0;
                    if (open && firstApart(people, s, t, round) != NONE) {
                        apart[pair] = round;
                        apart[t * MOST_STATES + s] = round;
                        changed = true;
                    }
                }
            }
        }

        /** The lowest question that begins a row of that length which tells them apart; NONE: there is none. */
        int firstApart(Valley people, int s, int t, int length) {
            for (int q = 0; q < QUESTIONS; q++) {
                boolean begins = length == 1
                        ? people.answer(q, s) != people.answer(q, t)
                        : apartBy(people.behind(q, s), people.behind(q, t)) == length - 1;
                if (begins) {
                    return q;
                }
            }
            return NONE;
        }

        int alike(Valley people, int s) {
            int bits = 0;
            for (int t = 0; t < people.states; t++) {
                if (apartBy(s, t) == 0) {
                    bits |= 1 << t;
                }
            }
            return bits;
        }

        int countAlike(Valley people) {
            int count = 0;
            for (int s = 0; s < people.states; s++) {
                int lower = (1 << s) - 1;
                // A class is counted at the lowest of its states.
                if ((alike(people, s) & lower) == 0) {
                    count++;
                }
            }
            return count;
        }

        /** In how many questions the game ends: odd if the one who begins wins, even if he loses, 0 if neither can. */
        int play(Valley people, int s, int answer) {
            Arrays.fill(ending, 0);
            boolean changed = true;
            for (int round = 1; round <= POSITIONS && changed; round++) {
                changed = false;
                for (int i = 0; i < POSITIONS; i++) {
                    int at = i / LASTS;
                    int last = i % LASTS;
                    boolean open = at < people.states && ending[i] == 0;
                    if (open && endsIn(people, at, last, answer, round)) {
                        ending[i] = round;
                        changed = true;
                    }
                }
            }
            return endingAt(s, QUESTIONS);
        }

        private int endingAt(int s, int last) {
            int position = s * LASTS + last;
            return position >= 0 && position < POSITIONS ? ending[position] : 0;
        }

        /** Of a position that no earlier round has ended. */
        private boolean endsIn(Valley people, int s, int last, int answer, int round) {
            boolean wins = round % 2 == 1;
            for (int q = 0; q < QUESTIONS; q++) {
                if (q != last) {
                    boolean had = people.answer(q, s) == answer;
                    int other = endingAt(people.behind(q, s), q);
                    if (wins && (round == 1 ? had : other == round - 1)) {
                        return true;
                    }
                    if (!wins && (had || other % 2 == 0)) {
                        return false;
                    }
                }
            }
            return !wins;
        }
    }

    /** What is asked of sets of states (bits), and of rows as sets of places. */
    private static final class Sets {
        private static final int UNSEEN = -1;
        private static final int UNSURE = SETS;

        private final int[] queue = new int[SETS];
        private final int[] worth = new int[SETS];
        private final int[] firsts = new int[SETS];
        private final int[] groups = new int[MOST_ANSWER + 1];
        private final int[] form = new int[MOST_FORM];
        private final int[] ahead = new int[MOST_FORM];
        private int queued;
        private int telling;

        /** Takes over a row and which places must stay ahead of each. */
        void orderForms(Valley people, Tape bytes, int n) {
            for (int i = 0; i < n && i < MOST_FORM; i++) {
                form[i] = bytes.byteAt(i);
                ahead[i] = 0;
                for (int j = 0; j < i; j++) {
                    // Like ones keep their order, so that no row is counted twice.
                    if (form[j] == form[i] || !people.maySwap(form[j], form[i])) {
                        ahead[i] |= 1 << j;
                    }
                }
            }
        }

        int countForms(int n) {
            int length = Math.max(0, Math.min(n, MOST_FORM));
            int every = (1 << length) - 1;
            Arrays.fill(worth, 0);
            worth[0] = 1;
            for (int done = 0; done < every && done < SETS; done++) {
                for (int i = 0; i < length && worth[done] != 0; i++) {
                    int with = done | 1 << i;
                    if (with != done && (ahead[i] & ~done) == 0 && with < SETS) {
                        worth[with] += worth[done];
                    }
                }
            }
            return every < SETS ? worth[every] : 0;
        }

        int firstForm(int n, int place) {
            int done = 0;
            int best = NONE;
            for (int i = 0; i <= place && i < n; i++) {
                best = NONE;
                for (int j = 0; j < n && j < MOST_FORM; j++) {
                    boolean free = (done >> j & 1) == 0 && (ahead[j] & ~done) == 0;
                    if (free && (best == NONE || form[j] < form[best])) {
                        best = j;
                    }
                }
                if (best == NONE) {
                    return NONE;
                }
                done |= 1 << best;
            }
            return best >= 0 && best < MOST_FORM ? form[best] : NONE;
        }

        /** Rows in the order of their length, then of their letters: so the first one that meets is the least. */
        int meet(Valley people, int what) {
            Arrays.fill(worth, UNSEEN);
            queued = 0;
            enter(people.everyState(), 0, NONE);
            for (int i = 0; i < queued && i < SETS; i++) {
                int set = queue[i] & SETS - 1;
                if (Integer.bitCount(set) == 1) {
                    return what == 0 ? worth[set] : what == 1 ? lowest(set) : firsts[set];
                }
                for (int q = 0; q < QUESTIONS; q++) {
                    int first = worth[set] == 0 ? q : firsts[set];
                    enter(image(people, set, q), worth[set] + 1, first);
                }
            }
            return NO_WAY;
        }

        private void enter(int set, int length, int first) {
            boolean isNew = set >= 0 && set < SETS && worth[set] == UNSEEN;
            if (isNew && queued >= 0 && queued < SETS) {
                worth[set] = length;
                firsts[set] = first;
                queue[queued] = set;
                queued++;
            }
        }

        private static int lowest(int set) {
            for (int s = 0; s < MOST_STATES; s++) {
                if ((set >> s & 1) != 0) {
                    return s;
                }
            }
            return NONE;
        }

        private static int image(Valley people, int set, int q) {
            int bits = 0;
            for (int s = 0; s < people.states; s++) {
                if ((set >> s & 1) != 0) {
                    bits |= 1 << people.behind(q, s);
                }
            }
            return bits;
        }

        /** The fewest questions of a plan for a set; NO_WAY: there is none. */
        int makeSure(Valley people, int set) {
            // Other questions bring no plan on, and most valleys have many of them.
            telling = people.telling();
            explore(people, set);
            boolean changed = true;
            for (int round = 1; round <= SETS && changed && worthOf(set) == UNSURE; round++) {
                changed = false;
                for (int i = 0; i < queued && i < SETS; i++) {
                    int each = queue[i] & SETS - 1;
                    if (worth[each] == UNSURE && firstSure(people, each, round) != NONE) {
                        worth[each] = round;
                        changed = true;
                    }
                }
            }
            return worthOf(set) == UNSURE ? NO_WAY : worthOf(set);
        }

        /** All sets that a plan for a set may come to; the worth of those that are not sure is open. */
        private void explore(Valley people, int set) {
            Arrays.fill(worth, UNSEEN);
            queued = 0;
            enterOpen(set);
            for (int i = 0; i < queued && i < SETS; i++) {
                int each = queue[i] & SETS - 1;
                for (int q = 0; q < QUESTIONS && worth[each] != 0; q++) {
                    if ((telling >> q & 1) != 0) {
                        enterGroups(people, each, q);
                    }
                }
            }
        }

        private void enterGroups(Valley people, int set, int q) {
            split(people, set, q);
            for (int a = 0; a <= MOST_ANSWER; a++) {
                if (groups[a] != 0) {
                    enterOpen(groups[a]);
                }
            }
        }

        private void enterOpen(int set) {
            enter(set, Integer.bitCount(set) == 1 ? 0 : UNSURE, NONE);
        }

        private int worthOf(int set) {
            return set >= 0 && set < SETS ? worth[set] : UNSURE;
        }

        /** By each answer the states that may be behind it. */
        private void split(Valley people, int set, int q) {
            Arrays.fill(groups, 0);
            for (int s = 0; s < people.states; s++) {
                int answer = people.answer(q, s);
                if ((set >> s & 1) != 0 && answer >= 0 && answer <= MOST_ANSWER) {
                    groups[answer] |= 1 << people.behind(q, s);
                }
            }
        }

        /** The lowest question behind which each set needs fewer questions than that; NONE: there is none. */
        int firstSure(Valley people, int set, int most) {
            for (int q = 0; q < QUESTIONS; q++) {
                if ((telling >> q & 1) != 0 && needsFewer(people, set, q, most)) {
                    return q;
                }
            }
            return NONE;
        }

        private boolean needsFewer(Valley people, int set, int q, int most) {
            split(people, set, q);
            for (int a = 0; a <= MOST_ANSWER; a++) {
                if (groups[a] != 0 && worthOf(groups[a]) >= most) {
                    return false;
                }
            }
            return true;
        }

        int fitLog(Valley people, Tape bytes, int n, int what) {
            int before = 0;
            int after = 0;
            int fewest = n;
            for (int s = 0; s < people.states; s++) {
                int lies = 0;
                int at = s;
                for (int i = 0; i < n; i++) {
                    int q = bytes.byteAt(2 * i);
                    if (people.answer(q, at) != bytes.byteAt(2 * i + 1)) {
                        lies++;
                    }
                    at = people.behind(q, at);
                }
                if (lies == 0) {
                    before |= 1 << s;
                    after |= 1 << at;
                }
                fewest = Math.min(fewest, lies);
            }
            return what == 0 ? before : what == 1 ? after : fewest;
        }

        int bestSplit(Valley people, int set, int what) {
            int best = NONE;
            int least = MOST_STATES + 1;
            for (int q = 0; q < QUESTIONS; q++) {
                int greatest = greatestGroup(people, set, q);
                if (greatest < least) {
                    best = q;
                    least = greatest;
                }
            }
            return what == 0 ? best : least;
        }

        private int greatestGroup(Valley people, int set, int q) {
            Arrays.fill(groups, 0);
            int greatest = 0;
            for (int s = 0; s < people.states; s++) {
                int answer = people.answer(q, s);
                if ((set >> s & 1) != 0 && answer >= 0 && answer <= MOST_ANSWER) {
                    groups[answer]++;
                    greatest = Math.max(greatest, groups[answer]);
                }
            }
            return greatest;
        }

        /** Above or below the line; NO_WAY: no weight. */
        int share(Valley people, Tape bytes, int n, int wanted, int what) {
            int part = 0;
            int all = 0;
            for (int s = 0; s < people.states; s++) {
                int weight = bytes.byteAt(n + s);
                int at = s;
                int answer = 0;
                for (int i = 0; i < n; i++) {
                    int q = bytes.byteAt(i);
                    answer = people.answer(q, at);
                    at = people.behind(q, at);
                }
                all += weight;
                part += answer == wanted ? weight : 0;
            }
            int divisor = commonDivisor(part, all);
            if (all <= 0 || divisor <= 0) {
                return NO_WAY;
            }
            return (what == 0 ? part : all) / divisor;
        }

        private static int commonDivisor(int a, int b) {
            int greater = b;
            int lesser = a;
            for (int turn = 0; turn < MOST_STATES * MOST_WEIGHT && lesser > 0; turn++) {
                int rest = greater % lesser;
                greater = lesser;
                lesser = rest;
            }
            return greater;
        }
    }
}
