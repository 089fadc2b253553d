/** Promises 3 and 4: the text at its edges, each way in which it can be just well or just not. */
public final class TextEdgesTest {
    private static final Due DUE = new Due();

    /** Each text that is tried with many numbers has one step, if it has a handler for the start. */
    private static int steps(String text) {
        return text.startsWith("on start") ? 1 : 0;
    }

    /** D: the last that is one, the first that is none, more digits, no digit. */
    private static void digit(String ahead, String behind, int limit) {
        int place = ahead.length();
        int steps = steps(ahead + behind);
        for (int d = 0; d < 10; d++) {
            if (d < limit) {
                DUE.well(ahead + d + behind, steps);
            } else {
                DUE.bad(ahead + d + behind, 2, place);
            }
            DUE.bad(ahead + "0" + d + behind, 2, place);
        }
        DUE.bad(ahead + (limit - 1) + "0" + behind, 2, place);
        DUE.bad(ahead + "10000000000" + behind, 2, place);
        DUE.bad(ahead + "x" + behind, 1, place);
        DUE.bad(ahead + "-1" + behind, 1, place);
        DUE.bad(ahead, 1, place);
        DUE.bad(ahead.substring(0, place - 1), 1, place - 1);
        DUE.bad(ahead + "7777777", 2, place);
    }

    private static void digits() {
        digit("on press ", "{}", 8);
        digit("on clock ", "{}", 4);
        digit("on answer ", "{}", 4);
        digit("on start{show ", ";}", 8);
        digit("on start{hide ", ";}", 8);
        digit("on start{grey ", ";}", 8);
        digit("on start{live ", ";}", 8);
        digit("on start{clock ", " 1;}", 4);
        digit("on start{ask ", " 1;}", 4);
        digit("on start{stop ", ";}", 4);
        digit("on start{save ", " 1;}", 4);
        digit("on start{a=far ", ";}", 4);
        digit("harm far ", "=1;", 4);
    }

    /** N: 999 is the last, however many zeros stand ahead of it; what would wrap to something small is too large, too. */
    private static void number(String ahead, String behind) {
        int place = ahead.length();
        int steps = steps(ahead + behind);
        String[] well = {"0", "1", "9", "10", "99", "998", "999", "000", "0999", "000000000000999"};
        String[] large = {"1000", "1001", "01000", "9990", "9999", "2147483647", "2147483648", "4294967295", "4294967296",
            "4294967297", "18446744073709551616", "18446744073709551617", "00000000000000000001000"};
        for (String n : well) {
            DUE.well(ahead + n + behind, steps);
        }
        for (String n : large) {
            DUE.bad(ahead + n + behind, 2, place);
            DUE.bad(ahead + n, 2, place);
        }
        DUE.bad(ahead, 1, place);
        DUE.bad(ahead + "-1" + behind, 1, place);
    }

    private static void numbers() {
        number("on start{a=", ";}");
        number("on start{clock 0 ", ";}");
        number("on start{ask 3 ", ";}");
        number("on start{a=least(1,", ");}");
        number("harm a=", ";");
        number("place ", ">a;");
        DUE.bad("on start{a=1 2;}", 1, 13);
        DUE.bad("on start{clock 0 1 2;}", 1, 19);
        ClickOrders x = DUE.of("on start{a=999;b=000999;c=0;clock 3 999;clock 0 0;}");
        DUE.is("999", x.name(0), 999);
        DUE.is("000999", x.name(1), 999);
        DUE.is("0", x.name(2), 0);
        DUE.is("a clock of 0 hours", x.clock(0), 0);
        DUE.is("a clock of 999 hours", x.clock(1), 3999);
    }

    /** LETTER: a to h, with no small letter at once behind it; another sign there is no part of it. */
    private static void letters() {
        for (char sign = 1; sign < 256; sign++) {
            boolean isName = sign >= 'a' && sign <= 'h';
            if (isName) {
                DUE.well("on start{" + sign + "=1;}", 1);
                DUE.well("on start{a=" + sign + ";}", 1);
                DUE.well("harm " + sign + "=1;", 0);
                ClickOrders x = DUE.of("on start{" + sign + "=7;}");
                DUE.is(sign + " is a name", x.name(sign - 'a'), 7);
            } else if (sign != ' ' && sign != '}') {
                DUE.bad("on start{" + sign + "=1;}", 1, 9);
            }
            boolean isSum = isName || sign == ' ' || sign >= '0' && sign <= '9' || sign == '(';
            if (!isSum) {
                DUE.bad("on start{a=" + sign + ";}", 1, 11);
            }
            boolean isSmall = sign >= 'a' && sign <= 'z';
            if (isSmall) {
                DUE.bad("on start{a" + sign + "=1;}", 1, 9);
                DUE.bad("on start{a=h" + sign + ";}", 1, 11);
            } else if (sign != ' ' && sign != '=') {
                DUE.bad("on start{a" + sign + "=1;}", 1, 10);
            }
        }
        DUE.bad("on start{a=b1;}", 1, 12);
        DUE.bad("on start{a=1b;}", 1, 12);
        DUE.well("on start{if a=1b=2;}", 2);
    }

    /** WORDS: one letter more or less is another word; a digit or a sign at once behind it is none of it. */
    private static void word(String ahead, String word, String behind, int steps) {
        int place = ahead.length();
        DUE.well(ahead + word + behind, steps);
        DUE.well(ahead + "   " + word + "  " + behind, steps);
        for (char small = 'a'; small <= 'z'; small++) {
            DUE.bad(ahead + word + small + behind, 1, place);
        }
        DUE.bad(ahead + word.substring(0, word.length() - 1) + behind, 1, place);
        DUE.bad(ahead + word.substring(0, word.length() - 1), 1, place);
        DUE.bad(ahead + Character.toUpperCase(word.charAt(0)) + word.substring(1) + behind, 1, place);
        DUE.bad(ahead + word, 1, place + word.length());
        DUE.bad(ahead + word + " ", 1, place + word.length() + 1);
    }

    private static void words() {
        word("", "on", " start{}", 0);
        word("on ", "start", "{}", 0);
        word("on ", "press", "1{}", 0);
        word("on ", "clock", "1{}", 0);
        word("on ", "answer", "1{}", 0);
        word("", "harm", " 1=1;", 0);
        word("", "place", "(1)=1;", 0);
        word("on start{", "show", "1;}", 1);
        word("on start{", "hide", "1;}", 1);
        word("on start{", "grey", "1;}", 1);
        word("on start{", "live", "1;}", 1);
        word("on start{", "clock", "1 1;}", 1);
        word("on start{", "ask", "1 1;}", 1);
        word("on start{", "stop", "1;}", 1);
        word("on start{", "save", "1 1;}", 1);
        word("on start{", "fail", ";}", 1);
        word("on start{", "if", "[1=1]fail;}", 2);
        word("on start{a=", "got", ";}", 1);
        word("on start{a=", "far", "1;}", 1);
        word("on start{a=", "least", "(1,2);}", 1);
        word("on start{a=", "most", "(1,2);}", 1);
        word("harm a=1", "or", "[b=1];", 0);
        word("harm a=1", "and", "[b=1];", 0);
        word("harm ", "not", "[a=1];", 0);
    }

    /** Blanks may stand ahead of each part and at the end; nothing else that looks like one may. */
    private static void blanks() {
        String[] parts = {"on", "press", "3", "{", "if", "not", "[", "a", "+", "1", "<", "far", "2", "or", "least", "(", "b", ",",
            "got", ")", ">", "0", "]", "and", "c", "=", "(", "d", "*", "2", "/", "e", "-", "most", "(", "1", ",", "2", ")", ")",
            "ask", "1", "f", ";", "show", "2", ";", "clock", "1", "9", ";", "}", "harm", "a", "=", "1", ";", "place", "b", "=",
            "1", ";"};
        DUE.well(String.join(" ", parts), 4);
        DUE.well("   " + String.join("   ", parts) + "   ", 4);
        for (int at = 0; at <= parts.length; at++) {
            StringBuilder text = new StringBuilder();
            int place = 0;
            for (int k = 0; k <= parts.length; k++) {
                if (k == at) {
                    place = text.length();
                    text.append((char) new int[] {9, 10, 13, 0, 160, 255}[at % 6]);
                }
                text.append(k < parts.length ? parts[k] + ' ' : "");
            }
            DUE.bad(text.toString(), 1, place);
        }
        DUE.bad("o n start{}", 1, 0);
        DUE.bad("on st art{}", 1, 3);
        DUE.well(" ", 0);
        DUE.well(" ".repeat(600), 0);
    }

    /** 60 steps are well, a 61st is not; an if and what it has are one each. */
    private static void manySteps() {
        DUE.well("on start{" + "fail;".repeat(59) + "}", 59);
        DUE.well("on start{" + "fail;".repeat(60) + "}", 60);
        DUE.bad("on start{" + "fail;".repeat(61) + "}", 3, 309);
        DUE.bad("on start{" + "fail;".repeat(60) + "   fail;}", 3, 312);
        DUE.well("on start{" + "fail;".repeat(30) + "}on press 0{" + "fail;".repeat(30) + "}", 60);
        DUE.bad("on start{" + "fail;".repeat(30) + "}on press 0{" + "fail;".repeat(31) + "}", 3, 321);
        DUE.well("on start{" + "fail;".repeat(58) + "if a=1 fail;}", 60);
        DUE.bad("on start{" + "fail;".repeat(59) + "if a=1 fail;}", 3, 311);
        DUE.bad("on start{" + "fail;".repeat(60) + "if a=1 fail;}", 3, 309);
        DUE.well("on start{" + "fail;".repeat(57) + "if a=1 if a=1 fail;}", 60);
        DUE.bad("on start{" + "fail;".repeat(58) + "if a=1 if a=1 fail;}", 3, 313);
        DUE.bad("on start{" + "fail;".repeat(60) + "h=1000;}", 3, 309);
        DUE.bad("on start{" + "fail;".repeat(60) + "show 9;}", 3, 309);
        DUE.bad("on start{" + "fail;".repeat(60) + "fail", 3, 309);
    }

    private static void nested(String ahead, String open, String within, String close, String behind, int steps) {
        DUE.well(ahead + open.repeat(6) + within + close.repeat(6) + behind, steps);
        DUE.bad(ahead + open.repeat(7) + within + close.repeat(7) + behind, 3, ahead.length() + 6 * open.length());
        DUE.bad(ahead + open.repeat(7), 3, ahead.length() + 6 * open.length());
        DUE.bad(ahead + open.repeat(20), 3, ahead.length() + 6 * open.length());
    }

    /** Six may be open at one time, a seventh may not; what was closed counts no more. */
    private static void manyOpen() {
        nested("on start{a=", "(", "1", ")", ";}", 1);
        nested("harm ", "(", "1", ")", "=1;", 0);
        nested("harm ", "[", "a=1", "]", ";", 0);
        nested("place ", "not ", "a=1", "", ";", 0);
        DUE.well("on start{" + "if a=1 ".repeat(6) + "fail;}", 7);
        DUE.bad("on start{" + "if a=1 ".repeat(7) + "fail;}", 3, 51);
        DUE.well("on start{a=" + "least(1,".repeat(6) + "2" + ")".repeat(6) + ";}", 1);
        DUE.bad("on start{a=" + "least(1,".repeat(7) + "2" + ")".repeat(7) + ";}", 3, 11 + 48 + 5);
        DUE.well("on start{a=" + "most(".repeat(6) + "1" + ",2)".repeat(6) + ";}", 1);
        DUE.bad("on start{a=" + "most (".repeat(7) + "1" + ",2)".repeat(7) + ";}", 3, 11 + 36 + 5);
        DUE.well("on start{if[not[((1))=(2)and not(1)=1]]fail;}", 2);
        DUE.well("on start{if[not[not(1)=1]]fail;}", 2);
        DUE.bad("on start{if[not[not((1))=1]]fail;}", 3, 20);
        DUE.well("on start{if not not not not not a=1 fail;}", 2);
        DUE.bad("on start{if not not not not not not a=1 fail;}", 3, 32);
        DUE.bad("on start{if not not not not not [a=1]fail;}", 3, 32);
        DUE.bad("on start{if not not not not not (a)=1 fail;}", 3, 32);
    }

    private static void closedAgain() {
        DUE.well("harm " + "not not not not not not a=1 and ".repeat(8) + "a=1;", 0);
        DUE.well("harm " + "[[[[[[a=1]]]]]]or ".repeat(8) + "a=1;", 0);
        DUE.well("harm " + "((((((a))))))+".repeat(8) + "a=1;", 0);
        DUE.well("harm a=" + "least((((((a))))),1)+".repeat(8) + "a;", 0);
        DUE.well("on start{" + "if not not not not not a=1 fail;".repeat(8) + "}", 16);
        DUE.well("on start{" + "if a=1 if a=1 if a=1 if a=1 if a=1 if a=1 fail;".repeat(8) + "}", 56);
        DUE.well("harm ((((((1))))))=1;place ((((((1))))))=1;", 0);
        DUE.bad("on start{if a=1 if a=1 if a=1 if a=1 if a=1 if a=1 b=(1);}", 3, 53);
        DUE.bad("on start{if a=1 if a=1 if a=1 if a=1 if a=1 if a=1 ask 0 most(1,2);}", 3, 61);
        ClickOrders x = new ClickOrders();
        for (int k = 0; k < 4; k++) {
            DUE.is("a fault with six open", Due.reads(x, "harm (((((([a=1;"), -9);
        }
        DUE.is("leaves none open", Due.reads(x, "harm [[[[[[a=1]]]]]];"), 0);
    }

    /** An event that was told: at its "on", but found behind the event, whatever comes then. */
    private static void told(String event) {
        String first = "on " + event + "{}";
        int place = first.length();
        DUE.bad(first + first, 4, place);
        DUE.bad(first + "  on " + event, 4, place + 2);
        DUE.bad(first + "on " + event + " x", 4, place);
        DUE.bad(first + "on " + event + "{x=1000;", 4, place);
        DUE.bad(first + "on " + event.substring(0, event.length() - 1), 1,
            event.equals("start") ? place + 3 : place + 2 + event.length());
        DUE.bad("on " + event + "{a=1;}" + first, 4, place + 4);
    }

    private static void toldTwice() {
        told("start");
        for (int d = 0; d < 8; d++) {
            told("press " + d);
        }
        for (int d = 0; d < 4; d++) {
            told("clock " + d);
            told("answer " + d);
        }
        DUE.bad("on press 1{}on press 01{}", 2, 21);
        DUE.bad("on press 1{}on press 11{}", 2, 21);
        StringBuilder every = new StringBuilder("on start{}");
        for (int d = 0; d < 8; d++) {
            every.append("on press ").append(d).append("{}");
        }
        for (int d = 0; d < 4; d++) {
            every.append("on clock ").append(d).append("{}on answer ").append(d).append("{}");
        }
        DUE.well(every.toString(), 0);
        DUE.is("all handlers", DUE.of(every.toString()).count(1), 17);
        DUE.bad(every + "on answer 3{}", 4, every.length());
    }

    /** Of more faults that from the left the first counts, of more at one place the least. */
    private static void theFirstFault() {
        DUE.bad("on press 9{a=1000;x", 2, 9);
        DUE.bad("on press 1{x a=1000;}on press 1{}", 1, 11);
        DUE.bad("on press 1{a=1000;}on press 1{}", 2, 13);
        DUE.bad("on press 1{}on press 1{a=1000;", 4, 12);
        DUE.bad("harm (((((((1000", 3, 11);
        DUE.bad("harm 1000=(((((((1", 2, 5);
        DUE.bad("on start{" + "fail;".repeat(60) + "x", 1, 309);
        DUE.bad("on start{" + "fail;".repeat(60) + "1", 1, 309);
        DUE.bad("on start{" + "fail;".repeat(60) + "failx;", 1, 309);
        DUE.bad("on start{" + "fail;".repeat(60), 1, 309);
        DUE.bad("harm ((((((1(", 1, 12);
        DUE.bad("harm ((((((1[", 1, 12);
        DUE.bad("harm ((((((not", 1, 11);
        DUE.bad("harm ((((((if", 1, 11);
        DUE.bad("harm not not not not not not a=1 not", 1, 33);
    }

    /** Where the text ends too early, the place is its length, blanks at its end with it. */
    private static void tooShort() {
        String text = "on press 1{if not[a=1]and b=least(1,far 2)ask 1 got*12;}harm (a)>1;";
        for (int n = 1; n < text.length(); n++) {
            boolean isInWord = Character.isLowerCase(text.charAt(n - 1)) && Character.isLowerCase(text.charAt(n));
            if (!isInWord && n != text.indexOf('}') + 1) {
                DUE.bad(text.substring(0, n), 1, n);
                DUE.bad(text.substring(0, n) + "  ", 1, n + 2);
            }
        }
        DUE.bad("on start{" + " ".repeat(591), 1, 600);
        DUE.bad(" ".repeat(599) + "x", 1, 599);
        DUE.bad(" ".repeat(598) + "on", 1, 600);
    }

    /** The last harm and the last place count; one with a fault in it counts for nothing. */
    private static void theLast() {
        ClickOrders x = DUE.of("harm 1=1;harm 1=2;place 1=2;place 1=1;on press 0{b=1;}");
        DUE.is("the last harm", x.spoilt(), false);
        DUE.is("the last place", x.stuck(0, 0, 1), 0);
        ClickOrders y = DUE.of("harm 1=2;place 1=1;place 1=2;on press 0{b=1;}harm 1=1;");
        DUE.is("the last harm again", y.spoilt(), true);
        DUE.is("the last place again", y.stuck(0, 0, 1), 1);
        DUE.is("a fault behind a harm", Due.reads(y, "harm 1=2;place 1=1;x"), -9);
        DUE.is("leaves the harm ahead of it", y.spoilt(), true);
        DUE.is("and the place", y.stuck(0, 0, 1), 1);
        Due.reads(y, "on press 0{b=1;}");
        DUE.is("without harm nothing is", y.spoilt(), false);
        DUE.is("without place all is one", y.stuck(0, 0, 1), 0);
        DUE.is("of no page", y.stuck(8, 0, 600), 0);
        DUE.is("nothing is spoilt", y.worst(8, 600), -1);
    }

    public static void main(String[] args) {
        digits();
        numbers();
        letters();
        words();
        blanks();
        manySteps();
        manyOpen();
        closedAgain();
        toldTwice();
        theFirstFault();
        tooShort();
        theLast();
        DUE.ends();
    }
}
