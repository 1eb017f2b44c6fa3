/** The text of a census: each bound and each fault with its place. */
final class CensusBounds {
    private static final String LETTERS = "abcdefgh";
    private static final String TIMES = "23456789";

    private CensusBounds() {
    }

    static void run() {
        length();
        letter();
        round();
        most();
        signs();
        third();
        more();
    }

    /** How many questions a census has, or its fault: the same, if it is looked at or taken. */
    private static void reads(String text, int due) {
        AskedValley v = Due.of("2;a:*>1=3");
        Due.is("look " + text, Due.look(v, text, 103), due);
        int taken = Due.census(v, text);
        Due.is("census " + text, taken < 0 ? taken : v.count(6), due);
        Due.is("asked by " + text, v.count(6), Math.max(0, due));
    }

    private static void length() {
        Sentence.of("Terms", "A CENSUS: a TEXT of at most 60 bytes, no blanks");
        String longest = "(a)".repeat(20);
        Due.is("the longest", longest.length(), 60);
        reads(longest, 20);
        reads(longest + "a", -1);
        reads("((a))" + "(a)".repeat(18) + "ab", -1);
        String text = "2a3(b(4c))d";
        for (int i = 0; i <= text.length(); i++) {
            reads(text.substring(0, i) + " " + text.substring(i), -1000 - i);
        }
    }

    private static void letter() {
        Sentence.of("Terms", "QUESTIONS one behind the other: a letter a to h, ahead of it perhaps a digit 2 to 9 (so many times)");
        for (int i = 0; i < 8; i++) {
            reads(LETTERS.substring(i, i + 1), 1);
            reads(TIMES.charAt(i) + "h", 2 + i);
            reads("a" + TIMES.charAt(i) + "ba", 4 + i);
        }
        reads("`", -1000);
        reads("i", -1000);
        reads("0a", -1000);
        reads("1a", -1000);
        reads("a1a", -1001);
        reads(":a", -1000);
        reads("22a", -1001);
        reads("12a", -1000);
        AskedValley v = Due.of("9;a:0>1=1,1>2=2,2>3=3,3>4=4;b:*>.=9");
        int[] due = {1, 2, 3, 9, 4, -4};
        for (int i = 0; i < due.length; i++) {
            Due.is("one behind the other", Due.look(v, "3aba", i), due[i]);
        }
    }

    private static void round() {
        Sentence.of("Terms", "or (QUESTIONS), ahead of it perhaps a digit 2 to 9 (so many times)");
        reads("(a)", 1);
        for (int i = 0; i < 8; i++) {
            reads(TIMES.charAt(i) + "(ab2c)", 4 * (2 + i));
            reads(TIMES.charAt(i) + "(2(a))", 2 * (2 + i));
        }
        reads("()", -1001);
        reads("2()", -1002);
        reads("1(a)", -1000);
        reads("0(a)", -1000);
        reads("22(a)", -1001);
        reads("2(a)3(b)", 5);
        AskedValley v = Due.of("9;a:0>1=1,1>2=2,2>3=3,3>4=4,4>5=5;b:*>.=9");
        int[] due = {1, 2, 9, 3, 4, 9, 5, -4};
        for (int i = 0; i < due.length; i++) {
            Due.is("round by round", Due.look(v, "2(2(a)b)a", i), due[i]);
        }
    }

    private static void most() {
        Sentence.of("Terms", "40 at most in all");
        reads("a".repeat(39), 39);
        reads("a".repeat(40), 40);
        reads("a".repeat(41), -6040);
        reads("9a9a9a9a4a", 40);
        reads("9a9a9a9a5a", -6008);
        reads("5(8a)", 40);
        reads("5(8a)a", -6005);
        reads("(5(8a))", 40);
        reads("(5(8a))a", -6007);
        reads("(5(8a)a)", -6006);
        reads("2(4(5a))", 40);
        reads("9a9a9a(9a(4a))", 40);
        // In all: what stands ahead of a round counts within it.
        reads("9a9a9a(9a(5a))", -6010);
        reads("9a9a9a9a(5a)", -6009);
    }

    private static void signs() {
        Sentence.of("Terms", "FAULTS: 1; 5 a third ( that is open in another one, at it");
        // What may stand at each place: 0 to 2 so many rounds are open and something stands in the last; b it begins,
        // B all begins; d behind a digit.
        String text = "2a3(b(4c))d";
        String kind = "Bd0db1bd210" + "0";
        for (int i = 0; i <= text.length(); i++) {
            char at = kind.charAt(i);
            String may = LETTERS + "(" + (at == 'd' ? "" : TIMES) + (at == '1' || at == '2' ? ")" : "");
            for (int sign = 0; sign < 256; sign++) {
                if (may.indexOf(sign) < 0) {
                    String rest = i < text.length() ? text.substring(i + 1) : "";
                    reads(text.substring(0, i) + (char) sign + rest, -1000 - i);
                }
            }
            if (i > 0 && at != '0') {
                reads(text.substring(0, i), -1000 - i);
            }
        }
        reads("2a", 2);
        reads("2a3(b(4c))", 17);
        reads("2a3(b(4c))d", 18);
    }

    private static void third() {
        Sentence.of("Terms", "5 a third ( that is open in another one, at it; 6 more than 40");
        reads("((a))", 1);
        reads("(((a)))", -5002);
        reads("(((", -5002);
        reads("2(2(2(a)))", -5005);
        reads("(a(b(c)))", -5004);
        reads("((a)(b)(c))", 3);
        reads("((a))((b))", 2);
        reads("((a)((b)))", -5005);
        reads("((a))(((", -5007);
    }

    private static void more() {
        Sentence.of("Terms", "6 more than 40, at the first byte of what (or its digit) by which they are (asked when it ends; of an inner one first)");
        // By a letter, by its digit, by a round, by its digit.
        reads("5(8a)b", -6005);
        reads("5(8a)2b", -6005);
        reads("a4(9a)4a", -6006);
        reads("9a9a9a9aaaaaa", -6012);
        reads("5(9a)", -6000);
        reads("a5(8a)", -6001);
        reads("b9(9a)", -6001);
        // Asked when it ends: till then another fault comes first.
        reads("5(8a)2", -1006);
        reads("5(8a)2i", -1006);
        reads("5(8a)i", -1005);
        reads("5(9ai)", -1004);
        reads("5(9a", -1004);
        reads("5(9a(((", -5005);
        reads("9(5(a", -1005);
        reads("5(9a)i", -6000);
        // Of an inner one first.
        reads("(5(9a))", -6001);
        reads("9(9(9a))", -6002);
        reads("2(3(7a))", -6000);
        reads("9(5(a))", -6000);
        reads("9a9a9a9a5(a)", -6008);
        reads("9a9a9a9a2(3a)", -6008);
        reads("9a9a9a9a2(5a)", -6010);
        reads("5(8a)(a)", -6006);
        reads("5(8a)((a))", -6007);
        reads("(9a9a(9a9a)9a)", -6011);
        reads("2(9a(9a)3a)", -6000);
    }
}
