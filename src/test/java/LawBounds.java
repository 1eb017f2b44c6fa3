/** The text of a law and what it means: each bound and each fault with its place. */
final class LawBounds {
    private static final String DIGITS = "0123456789";
    private static final String LETTERS = "qalpbnstw";
    private static final String BETWEEN = "+-*/%";
    /** Each question stays and answers one more than its number. */
    private static final String EVERY = "10;a:*>.=1;b:*>.=2;c:*>.=3;d:*>.=4;e:*>.=5;f:*>.=6;g:*>.=7;h:*>.=8";
    private static final int NONE_ASKED = 8;

    private LawBounds() {
    }

    static void run() {
        length();
        rules();
        parts();
        likes();
        gifts();
        refusals();
        firstRule();
        conditions();
        fromTheLeft();
        factors();
        letters();
        moduloLetters();
        bits();
        dividedByNothing();
        asMuchAsMatters();
        signs();
        sixthDigit();
        rule17();
        seventh();
    }

    private static void reads(String text, int due) {
        Due.is("law " + text, Due.law(new AskedValley(), text), due);
    }

    /** The question that is asked on a first day by a law; 8: none. */
    private static int asks(String law) {
        AskedValley v = Due.of(EVERY);
        Due.is("law " + law, Due.law(v, law) > 0, true);
        return v.tried(1, 5);
    }

    private static boolean holds(String c) {
        return asks("e1(" + c + ")") == 0;
    }

    /** What is given on a first day for c, whose answer is 3; its price of 1 leaves a purse of 99. */
    private static int gives(String rules) {
        AskedValley v = Due.of(EVERY);
        v.purse(100);
        Due.is("law " + rules, Due.law(v, "e1(q=2);" + rules) > 1, true);
        return v.tried(1, 2) - 99;
    }

    private static int number(String e) {
        return gives("g" + e + "(1=1)");
    }

    private static String longLaw(int length) {
        StringBuilder text = new StringBuilder(length % 2 == 0 ? "x(1=1" : "x(1=01");
        while (text.length() < length - 1) {
            text.append("+1");
        }
        return text.append(')').toString();
    }

    private static void length() {
        Sentence.of("Terms", "THE LAW: a TEXT of at most 240 bytes, no blanks (none at first)");
        Due.is("rules at first", new AskedValley().count(8), 0);
        Due.is("asked at first", Due.of(EVERY).tried(100, 0), 0);
        Due.is("the longest", longLaw(240).length(), 240);
        Due.is("one more", longLaw(241).length(), 241);
        reads(longLaw(239), 1);
        reads(longLaw(240), 1);
        reads(longLaw(241), -1);
        // Of the longest each byte counts.
        String sum = "1+".repeat(115) + "1)";
        Due.is("its length", ("e1(0116=" + sum).length(), 240);
        Due.is("116 times 1", asks("e1(0116=" + sum), 0);
        Due.is("116 times 1", asks("e1(0115=" + sum), NONE_ASKED);
        String text = "x(!q=1&(a<[b]*2|12345>w));e7-p(1=1)";
        for (int i = 0; i <= text.length(); i++) {
            reads(text.substring(0, i) + " " + text.substring(i), -1000 - i);
        }
    }

    private static String repeated(String rule, int times) {
        return (rule + ";").repeat(times - 1) + rule;
    }

    private static void rules() {
        Sentence.of("Terms", "RULES (16 at most) with a ; (59) between two");
        for (int n = 1; n <= 16; n++) {
            reads(repeated("x(q=0)", n), n);
            reads(repeated("e1(q=0)", n), n);
            reads(repeated("g1(q=0)", n), n);
        }
        reads(repeated("x(q=0)", 17), -4112);
        reads("x(q=0)" + (char) 59 + "x(q=0)", 2);
        reads("x(q=0)x(q=0)", -1006);
        reads("x(q=0),x(q=0)", -1006);
        reads("x(q=0);;x(q=0)", -1007);
        reads(";x(q=0)", -1000);
        // The sixteenth counts, too.
        Due.is("the sixteenth", asks(repeated("e0(q=0)", 15) + ";e1(q=5)"), 5);
    }

    private static void parts() {
        Sentence.of("Terms", "a letter, E, and (C), of x only (C)");
        reads("e1(1=1)", 1);
        reads("g1(1=1)", 1);
        reads("x(1=1)", 1);
        reads("e(1=1)", -1001);
        reads("g(1=1)", -1001);
        reads("x1(1=1)", -1001);
        reads("e1", -1002);
        reads("e1()", -1003);
        reads("x()", -1002);
        reads("f1(1=1)", -1000);
    }

    private static void likes() {
        Sentence.of("Terms", "e how the inspector likes to ask a QUESTION (0 to 9999)");
        Due.is("below 0 is 0", asks("e0-1(1=1)"), NONE_ASKED);
        Due.is("0", asks("e0(1=1)"), NONE_ASKED);
        Due.is("1", asks("e1(q=7)"), 7);
        Due.is("9999 is more than 9998", asks("e9998(q=0);e9999(q=1)"), 1);
        Due.is("10000 is no more than 9999", asks("e9999(q=0);e10000(q=1)"), 0);
        Due.is("10000 is more than 9998", asks("e9998(q=0);e10000(q=1)"), 1);
        Due.is("99999 is no more than 9999", asks("e9999(q=3);e99999(q=4)"), 3);
    }

    private static void gifts() {
        Sentence.of("Terms", "g what he is given for its ANSWER (0 to 99)");
        Due.is("below 0 is 0", number("0-1"), 0);
        Due.is("0", number("0"), 0);
        Due.is("1", number("1"), 1);
        Due.is("98", number("98"), 98);
        Due.is("99", number("99"), 99);
        Due.is("100 is 99", number("100"), 99);
        Due.is("99999 is 99", number("99999"), 99);
        Due.is("by its answer", gives("g7(a=3);g5(1=1)"), 7);
        Due.is("by its answer", gives("g7(a=2);g5(1=1)"), 5);
    }

    private static void refusals() {
        Sentence.of("Terms", "x it is refused (any will do; without an x in THE LAW none is)");
        Due.is("without an x", asks("e1(1=1)"), 0);
        Due.is("the first of two", asks("e1(1=1);x(q=0);x(q=7)"), 1);
        Due.is("the second of two", asks("e1(1=1);x(q=7);x(q=0)"), 1);
        Due.is("both", asks("x(q<2);e1(1=1);x(q<5)"), 5);
        Due.is("all", asks("x(1=1);e1(1=1)"), NONE_ASKED);
        Due.is("none", asks("x(1=2);e1(1=1)"), 0);
    }

    private static void firstRule() {
        Sentence.of("Terms", "of the first RULE of e, g whose C holds the E (beyond its bounds the bound; none: 0)");
        Due.is("the first that holds", asks("e1(q=0);e9(q<2)"), 1);
        Due.is("the first that holds", asks("e9(q=9);e1(q=0);e9(q=0);e2(q=4)"), 4);
        Due.is("the first that holds", gives("g5(q=1);g6(q=2);g7(q=2)"), 6);
        Due.is("g is asked of g alone", gives("e9(q=2);g7(q=2)"), 7);
        Due.is("e is asked of e alone", asks("g9(q=3);e1(q=4)"), 4);
        Due.is("none of e", asks("g9(1=1)"), NONE_ASKED);
        Due.is("none of e holds", asks("e9(q=8)"), NONE_ASKED);
        Due.is("none of g holds", gives("g9(q=3)"), 0);
        Due.is("beyond above: the bound", asks("e9999(q=1);e10000(q=0)"), 0);
        Due.is("beyond below: the bound, and no later rule", asks("e0-1(q=0);e5(q=0);e1(q=1)"), 1);
        Due.is("beyond above: the bound", number("100"), 99);
        Due.is("beyond below: the bound, and no later rule", gives("g0-1(1=1);g5(1=1)"), 0);
    }

    private static void conditions() {
        Sentence.of("Terms", "C: PARTS with a | between two, one of which must hold; a PART: TESTS with an & between two, all of which must; "
                + "a TEST: !TEST, (C), or E, one of < > =, and E.");
        Due.is("none of the parts", holds("1=2|1=3|1=4"), false);
        Due.is("the first part", holds("1=1|1=3|1=4"), true);
        Due.is("the last part", holds("1=2|1=3|1=1"), true);
        Due.is("all of the tests", holds("1=1&2=2&3=3"), true);
        Due.is("not the first test", holds("1=2&2=2&3=3"), false);
        Due.is("not the last test", holds("1=1&2=2&3=4"), false);
        Due.is("& binds more than |", holds("1=1|1=1&1=2"), true);
        Due.is("& binds more than |", holds("1=2&1=1|1=1"), true);
        Due.is("(C)", holds("(1=1|1=1)&1=2"), false);
        Due.is("! of a test alone", holds("!1=2&1=2"), false);
        Due.is("! of a test alone", holds("!1=1|1=1"), true);
        Due.is("!", holds("!1=1"), false);
        Due.is("!", holds("!0<1"), false);
        Due.is("!", holds("!1>0"), false);
        Due.is("!", holds("!1=2"), true);
        Due.is("!!", holds("!!1=1"), true);
        Due.is("!!", holds("!!1=2"), false);
        Due.is("!(C)", holds("!(1=1&1=2)"), true);
        Due.is("!(C)", holds("!(1=2|1=1)"), false);
        boolean[] less = {true, false, false};
        for (int left = 0; left < 3; left++) {
            Due.is("<", holds(left + "<1"), less[left]);
            Due.is("=", holds(left + "=1"), left == 1);
            Due.is(">", holds(left + ">1"), less[2 - left]);
        }
    }

    private static void fromTheLeft() {
        Sentence.of("Terms", "E: TERMS with + or - between two; a TERM: FACTORS with one of * / % between two; from the left on");
        Due.is("from the left", number("9-3-2"), 4);
        Due.is("from the left", number("9-3+2"), 8);
        Due.is("from the left", number("24/4/3"), 2);
        Due.is("from the left", number("24/5*3"), 12);
        Due.is("from the left", number("7*5%4"), 3);
        Due.is("from the left", number("17%5*7"), 14);
        Due.is("from the left", number("50/17%2"), 0);
        Due.is("terms of factors", number("2+3*4-6/2"), 11);
        Due.is("[E]", number("[2+3]*[4-2]"), 10);
    }

    private static void factors() {
        Sentence.of("Terms", "a FACTOR: [E], a number of one to five digits, or a letter");
        Due.is("one digit", number("7"), 7);
        Due.is("two digits", number("07"), 7);
        Due.is("three digits", number("007"), 7);
        Due.is("four digits", number("0007"), 7);
        Due.is("five digits", number("00007"), 7);
        Due.is("the greatest", number("99999-99900"), 99);
        Due.is("the greatest", number("99999-99998"), 1);
        reads("e000007(1=1)", -2006);
        reads("e[](1=1)", -1002);
        reads("e[1(1=1)", -1003);
        reads("e(1=1)", -1001);
        for (int i = 0; i < LETTERS.length(); i++) {
            reads("e" + LETTERS.charAt(i) + "(1=1)", 1);
        }
    }

    private static void letters() {
        Sentence.of("Terms", "q the QUESTION, a THE LAST ANSWER (in g the one just had), l THE LAST QUESTION (in g q), p its PRICE, b THE PURSE");
        // At first none was asked; then f was (its answer is 6).
        AskedValley v = Due.of(EVERY);
        v.price(3, 0);
        v.price(4, 99);
        int[] due = {7, 0, 1, 4, 3, 6};
        String[] law = {"e1(q=7)", "e1(a=0)", "e1(l=8&q=1)", "e1(p=99)", "e1(p=0)", "e1(b=50&q=6)"};
        v.purse(50);
        for (int i = 0; i < law.length; i++) {
            Due.law(v, law[i]);
            Due.is(law[i], v.tried(1, 5), law[i].contains("p=99") ? NONE_ASKED : due[i]);
        }
        v.purse(99);
        Due.law(v, "e1(p=99)");
        Due.is("p=99", v.tried(1, 5), 4);
        Due.census(v, "f");
        Due.law(v, "e1(q=a-6&l=5)");
        Due.is("a and l ahead", v.tried(1, 5), 0);
        // In g: of the question just asked, the purse without its price.
        Due.law(v, "e1(q=3);g1(q=3&a=4&l=3&p=0&b=99)");
        Due.is("in g", v.tried(1, 2), 100);
        Due.law(v, "e1(q=4);g1(q=4&a=5&l=4&p=99&b=0)");
        Due.is("in g", v.tried(1, 2), 1);
    }

    private static void moduloLetters() {
        Sentence.of("Terms", "n ASKED modulo 100, s SUM modulo 100, t THE DAY modulo 100, w the DRAW.");
        AskedValley v = Due.of(EVERY);
        Due.law(v, "e1(q=7)");
        Due.census(v, "9(4a)");
        Due.census(v, "9(4a)");
        Due.census(v, "9(3a)");
        v.days(99);
        // 99 were asked by censuses, 99 by days: SUM is 99 + 792.
        Due.is("asked", v.count(6), 198);
        Due.is("sum", v.count(7), 891);
        tells(v, "n", 98);
        tells(v, "s", 91);
        tells(v, "t", 99);
        Due.census(v, "h");
        tells(v, "n", 99);
        tells(v, "s", 99);
        v.days(1);
        tells(v, "n", 0);
        tells(v, "s", 7);
        tells(v, "t", 0);
        v.seed(0);
        // X is 13849 then.
        tells(v, "w", 9);
        v.seed(1);
        tells(v, "w", 2);
    }

    /** A letter has a value on the day to come. */
    private static void tells(AskedValley v, String letter, int due) {
        String text = "e1(" + letter + "=" + due + "&q=4)";
        Due.law(v, text);
        Due.is(text, v.tried(1, 5) == 4, true);
        Due.law(v, "e1(q=7)");
    }

    private static void bits() {
        Sentence.of("Terms", "All is reckoned with 32 bits, as the machine does");
        // The greatest number there is, and one more: the least.
        Due.is("the greatest", holds("32767*65536+65535>0"), true);
        Due.is("one more", holds("32767*65536+65536<0"), true);
        Due.is("the least", holds("32768*65536<0"), true);
        Due.is("one less", holds("32768*65536-1>0"), true);
        Due.is("one less is the greatest", holds("32768*65536-1=32767*65536+65535"), true);
        Due.is("twice the least", holds("32768*65536*2=0"), true);
        Due.is("46340 times itself", holds("46340*46340>0"), true);
        Due.is("46341 times itself", holds("46341*46341<0"), true);
        Due.is("99999 times itself", holds("99999*99999=14098*99999+79507"), true);
        Due.is("the least by -1", holds("32768*65536/[0-1]=32768*65536"), true);
        Due.is("the rest of it", holds("32768*65536%[0-1]=0"), true);
        Due.is("towards 0", holds("[0-7]/2=0-3"), true);
        Due.is("the rest of it", holds("[0-7]%2=0-1"), true);
        Due.is("the rest by less than 0", holds("7%[0-2]=1"), true);
        // Beyond its bounds the bound.
        Due.is("e of the greatest", asks("e9999(q=0);e32767*65536+65535(q=1)"), 0);
        Due.is("e of the greatest", asks("e9998(q=0);e32767*65536+65535(q=1)"), 1);
        Due.is("e of the least", asks("e32767*65536+65536(1=1)"), NONE_ASKED);
        Due.is("g of the greatest", number("32767*65536+65535"), 99);
        Due.is("g of the least", number("32767*65536+65536"), 0);
        Due.is("g of what comes to 5 again", number("65536*65536+5"), 5);
    }

    private static void dividedByNothing() {
        Sentence.of("Terms", "what is divided by 0 is REFUSED: then the whole C of the RULE does not hold, the E of it is 0.");
        String[] refused = {"1/0=0", "1%0=0", "0/0=0", "0%0=0", "!1/0=1", "!!1/0=0", "(1/0=0)", "!(1/0=1)", "1/0=0|1=1",
            "1=1&1/0=0|1=1", "(1/0=0|1=1)|1=1", "1=2|1%0=0|1=1", "0*[1/[2-2]]=0", "0=1/0", "5>1%[3-3]"};
        for (String c : refused) {
            Due.is("holds " + c, holds(c), false);
            Due.is("refused by " + c, asks("x(" + c + ");e1(1=1)"), 0);
            Due.is("given by " + c, gives("g9(" + c + ")"), 0);
        }
        // The C does not hold: the next rule is asked.
        Due.is("the next rule of e", asks("e9(1/q=9|1=1);e1(q=0)"), 1);
        Due.is("the next rule of e", asks("e9(1/0=0);e1(q=5)"), 5);
        Due.is("the next rule of g", gives("g9(1/0=0);g5(1=1)"), 5);
        Due.is("the next rule of x", asks("x(1/0=0);x(q<3);e1(1=1)"), 3);
        // The C holds and the E is 0: no other rule is asked.
        Due.is("the E of e", asks("e1/0(q=0);e5(q=0);e1(q=6)"), 6);
        Due.is("the E of e", asks("e9+1%0(1=1);e5(1=1)"), NONE_ASKED);
        Due.is("the E of g", gives("g9+1/0(1=1);g5(1=1)"), 0);
        Due.is("the E of g", gives("g1%0+9(1=1);g5(1=1)"), 0);
        // However often it was refused.
        AskedValley v = Due.of(EVERY);
        Due.law(v, "e9(5+1/0=1);e9+1*[2+1%0](q=2);e[3+4*[5-3]](q=3)");
        Due.is("a hundred days", v.days(100), 100);
        Due.is("of the same question", v.count(7), 400);
        // One question's refusal is none of another's.
        Due.is("of one question alone", asks("e1/[q-3]+5(1=1)"), 4);
        Due.is("of one question alone", asks("e6/q(1=1)"), 1);
    }

    private static void asMuchAsMatters() {
        Sentence.of("Terms", "Of a C as much is asked, from the left, as matters.");
        String[] hold = {"1=1|1/0=0", "1=1|1/0=0|1/0=0", "1=2|1=1|1/0=0", "1=2&1/0=0|1=1", "1=1&1=2&1/0=0|1=1", "!(1=2&1/0=0)",
            "(1=1|1/0=0)&1=1", "(1=1|1/0=0)&(1=1|1/0=0)", "1=1|(1/0=0)", "1=1|!1/0=0", "1=1|1=1&1/0=0", "!1=2|1/0=0"};
        for (String c : hold) {
            Due.is("holds " + c, holds(c), true);
        }
        String[] not = {"1=2|1/0=0", "1=1&1/0=0", "(1=2|1=1)&1/0=0", "1=2&1=1|1/0=0", "!(1=1&1/0=0)", "1=1&(1=2|1/0=0)|1=1"};
        for (String c : not) {
            Due.is("holds " + c, holds(c), false);
        }
        Due.is("false without asking more", holds("1=2&1/0=0"), false);
        Due.is("false, then another rule", asks("e9(1=2&1/0=0);e1(1=1)"), 0);
    }

    private static void signs() {
        Sentence.of("Terms", "FAULTS, the first from the left: 1 what can't stand there (the end, too); 2 a sixth digit, at it");
        everyPlace("x(!q=1&(a<[b]*2|12345>w));e7-p(1=1)", "rottlfSttlffbRfStmmmmmfRpzrfFfEtmfSz");
        everyPlace("g[1+2]/3(q=a);x(q>0);e4(!(w<5)&n=6)", "rffcfcEfFtlfRzrotlfSzrfFtttlfSptlfSz");
        // The first from the left, whatever comes behind it.
        reads("e1(1=x);z", -1005);
        reads("z1234567", -1000);
    }

    /**
     * Every sign at each place of a right text. What may stand there: r a rule's letter, o its (, t a test begins, f a
     * factor begins; behind a factor: F E in a rule's E, m l left in a test, S R right in it, c b in brackets (the former
     * of each behind a number, so that digits may stand there); p behind a ) within, z behind that of a rule.
     */
    private static void everyPlace(String text, String kind) {
        Due.is("a kind for each place and the end of " + text, kind.length(), text.length() + 1);
        for (int i = 0; i <= text.length(); i++) {
            String may = may(kind.charAt(i));
            String rest = i < text.length() ? text.substring(i + 1) : "";
            for (int sign = 0; sign < 256; sign++) {
                if (may.indexOf(sign) < 0) {
                    reads(text.substring(0, i) + (char) sign + rest, -1000 - i);
                }
            }
            if (i > 0 && kind.charAt(i) != 'z') {
                reads(text.substring(0, i), -1000 - i);
            }
        }
    }

    private static String may(char kind) {
        String factor = DIGITS + "[" + LETTERS;
        switch (kind) {
            case 'r':
                return "egx";
            case 'o':
                return "(";
            case 't':
                return factor + "!(";
            case 'f':
                return factor;
            case 'F':
                return DIGITS + BETWEEN + "(";
            case 'E':
                return BETWEEN + "(";
            case 'm':
                return DIGITS + BETWEEN + "<>=";
            case 'l':
                return BETWEEN + "<>=";
            case 'S':
                return DIGITS + BETWEEN + "&|)";
            case 'R':
                return BETWEEN + "&|)";
            case 'c':
                return DIGITS + BETWEEN + "]";
            case 'b':
                return BETWEEN + "]";
            case 'p':
                return "&|)";
            default:
                return ";";
        }
    }

    private static void sixthDigit() {
        Sentence.of("Terms", "2 a sixth digit, at it; 4 a 17th RULE, at its letter (if that can stand there)");
        for (int d = 0; d <= 9; d++) {
            reads("e12345(1=1)", 1);
            reads("e12345" + d + "(1=1)", -2006);
            reads("e12345" + d, -2006);
            reads("e00000" + d + "x", -2006);
            reads("e1(12345" + d, -2008);
            reads("e1(1=12345" + d, -2010);
            reads("e[12345" + d, -2007);
            reads("e12345+12345" + d, -2012);
        }
    }

    private static void rule17() {
        Sentence.of("Terms", "4 a 17th RULE, at its letter (if that can stand there)");
        String full = repeated("x(q=0)", 16);
        Due.is("16 rules", full.length(), 111);
        reads(full, 16);
        for (String letter : new String[] {"e", "g", "x"}) {
            reads(full + ";" + letter, -4112);
            reads(full + ";" + letter + "?", -4112);
        }
        reads(full + ";", -1112);
        reads(full + ";q", -1112);
        reads(full + ";;", -1112);
        reads(full + "x", -1111);
        reads(repeated("x(q=0)", 15) + ";e", -1106);
    }

    private static void seventh() {
        Sentence.of("Terms", "5 a seventh of ( [ ! that are open in one another, at it (the ( of the RULE counts; a ! is open till its TEST ends; "
                + "the E of a RULE stands ahead of it)");
        // The ( of the rule counts.
        reads("x((((((q=0))))))", 1);
        reads("x(((((((q=0)))))))", -5007);
        reads("x(!!!!!q=0)", 1);
        reads("x(!!!!!!q=0)", -5007);
        reads("x([[[[[q]]]]]=0)", 1);
        reads("x([[[[[[q]]]]]]=0)", -5007);
        reads("x(0=[[[[[q]]]]])", 1);
        reads("x(0=[[[[[[q]]]]]])", -5009);
        // All kinds together.
        reads("x(!(!([q]=0)))", 1);
        reads("x(!(!([[q]]=0)))", -5007);
        reads("x(!(!(![q]=0)))", -5007);
        reads("x(!(!(!q=[0])))", -5009);
        reads("x(!(!(!(q=0))))", -5007);
        reads("x(((((!q=0)))))", 1);
        reads("x(((((!!q=0)))))", -5007);
        // A ! is open till its test ends: by & | or ).
        reads("x(!!!!!q=[0])", -5009);
        reads("x(!!!!!q=0&!!!!!q=0)", 1);
        reads("x(!!!!!q=0|(((((q=0))))))", 1);
        reads("x((!!!!q=0)&(((((q=0))))))", 1);
        reads("x(!(!!!q=0)&(((((q=0))))))", 1);
        reads("x(!(!!!q=0)&((((((q=0))))))", -5017);
        reads("x(!!!!q=0&!!!!!!q=0)", -5015);
        // The E of a rule stands ahead of its (.
        reads("e[[[[[[q]]]]]](1=1)", 1);
        reads("e[[[[[[[q]]]]]]](1=1)", -5007);
        reads("e[[[[[[q]]]]]]((((((q=0))))))", 1);
        reads("e[[[[[[q]]]]]](((((((q=0)))))))", -5020);
        reads("e[[[[[[q]]]]]]+[[[[[[q]]]]]](1=1)", 1);
        reads("e[[[[[[q]]]]]]+[[[[[[[q", -5021);
        // What closes again counts no more.
        reads("x((q=0)&(q=0)&(q=0)&(q=0)&(q=0)&(q=0)&(q=0))", 1);
        reads("x([q]+[q]+[q]+[q]+[q]+[q]+[q]=0)", 1);
        // Where it can't stand it is fault 1.
        reads("x(q=0(", -1005);
        reads("x((((((q=!", -1009);
        reads("x((((((q(", -1008);
    }
}
