import java.util.NoSuchElementException;

/** Promises 5 to 15 at their edges: values that wrap, lines and clocks empty and full, 40 happenings, what a refused call leaves. */
public final class PageEdgesTest {
    private static final Due DUE = new Due();
    private static final int MIN = Integer.MIN_VALUE;
    private static final int MAX = Integer.MAX_VALUE;
    private static final int[] FAR_OUT = {MIN, MIN + 1, -1000, -2, 1000, MAX - 1, MAX};

    /** The value of a, as b is the least number and c the greatest. */
    private static void worth(String sum, int due) {
        ClickOrders x = DUE.of("on start{b=128*256*256*256;c=b-1;d=0-1;a=" + sum + ";}");
        DUE.is(sum, x.name(0), due);
    }

    private static void holds(String condition, boolean due) {
        ClickOrders x = DUE.of("on start{b=128*256*256*256;c=b-1;d=0-1;if " + condition + " a=1;}");
        DUE.is(condition, x.name(0) == 1, due);
    }

    private static void valuesWrap() {
        worth("b", MIN);
        worth("c", MAX);
        worth("c+1", MIN);
        worth("b-1", MAX);
        worth("c+c", -2);
        worth("b+b", 0);
        worth("0-b", MIN);
        worth("b*d", MIN);
        worth("b*b", 0);
        worth("c*c", 1);
        worth("c*2", -2);
        worth("65*999*999*999/999", (int) (65L * 999 * 999 * 999) / 999);
        worth("b/d", MIN);
        worth("c/d", -MAX);
        worth("b/2", MIN / 2);
        worth("b/b", 1);
        worth("c/b", 0);
        worth("b/c", -1);
        worth("c-b", -1);
        worth("least(b,c)", MIN);
        worth("most(b,c)", MAX);
        worth("least(d,b)", MIN);
        worth("most(c,d)", MAX);
        worth("least(b,b)+1", MIN + 1);
    }

    private static void divisions() {
        worth("7/0", 0);
        worth("0/0", 0);
        worth("b/0", 0);
        worth("c/(1-1)", 0);
        worth("7/2", 3);
        worth("(0-7)/2", -3);
        worth("7/(0-2)", -3);
        worth("(0-7)/(0-2)", 3);
        worth("1/2", 0);
        worth("d/2", 0);
        worth("0/7", 0);
        worth("7/0/0+1", 1);
        worth("7/0*5", 0);
    }

    /** Numbers that are far apart are compared as they are, not by their difference. */
    private static void comparisons() {
        holds("b<c", true);
        holds("c<b", false);
        holds("c>b", true);
        holds("b>c", false);
        holds("b<b", false);
        holds("c>c", false);
        holds("c=c", true);
        holds("b=c", false);
        holds("b-1=c", true);
        holds("d<0", true);
        holds("0<d", false);
        holds("0=0", true);
    }

    /** 5: how many happenings it had, from none to 40, and all is begun anew; the rest of the object goes on. */
    private static void beginning() {
        ClickOrders x = DUE.of("on start{c=2;hide 6;ask 2 8;clock 3 9;save 1 5;}"
            + "on press 0{c=9;h=1;show 6;grey 7;ask 2 1;ask 3 1;clock 0 1;save 0 1;fail;}");
        String begun = Due.all(x);
        DUE.is("5: of none", x.begin(), 0);
        DUE.same("5: of none", Due.all(x), begun);
        DUE.comes(x, 0, 10 + 1, 8);
        x.tell(5);
        x.form(1, 0, 0, 0);
        x.comes(0, 0);
        DUE.is("5: of three", x.begin(), 3);
        DUE.is("5: a name", x.name(2), 2);
        DUE.is("5: another name", x.name(7), 0);
        DUE.is("5: a thing", x.thing(6), 0);
        DUE.is("5: another thing", x.thing(7), 1);
        DUE.is("5: answers", x.count(3), 1);
        DUE.is("5: clocks", x.clock(0), 3009);
        DUE.is("5: one clock", x.clock(-1), 1);
        DUE.is("5: far rows", x.far(0) * 10 + x.far(1), 5);
        DUE.is("5: not failed", x.failed(), false);
        DUE.is("5: no crossings", x.crossings(), 0);
        DUE.throwing("5: no happenings", NoSuchElementException.class, () -> x.happening(0, 0));
        DUE.is("5: the told row stays", x.count(6), 1);
        DUE.is("5: the forms stay", x.count(5), 1);
        DUE.is("5: the windows go on", x.shows(0, 7), 1);
        DUE.is("5: it can come again", x.come(0), 0);
        for (int k = 1; k < 41; k++) {
            x.come(1);
        }
        DUE.is("5: of forty", x.begin(), 40);
    }

    /** 6, 7: codes 0 to 12 are all; a wrong one leaves all as it was. */
    private static void codes() {
        ClickOrders x = DUE.of("on start{ask 0 1;ask 1 1;ask 2 1;ask 3 1;clock 0 0;}");
        for (int code = 0; code < 13; code++) {
            DUE.is("6: can(" + code + ")", x.can(code), true);
        }
        String ahead = Due.all(x);
        for (int code : FAR_OUT) {
            DUE.throwing("6: can(" + code + ")", IllegalArgumentException.class, () -> x.can(code));
            DUE.throwing("7: come(" + code + ")", IllegalArgumentException.class, () -> x.come(code));
        }
        for (int code : new int[] {-1, 13}) {
            DUE.throwing("6: can(" + code + ")", IllegalArgumentException.class, () -> x.can(code));
            DUE.throwing("7: come(" + code + ")", IllegalArgumentException.class, () -> x.come(code));
        }
        DUE.same("7: a wrong code", Due.all(x), ahead);
        for (int code = 0; code < 13; code++) {
            DUE.is("7: come(" + code + ")", x.come(code), code);
            DUE.is("15: its code", x.happening(code, 0), code);
        }
        for (int code = 8; code < 13; code++) {
            DUE.is("6: can(" + code + ") then", x.can(code), false);
        }
    }

    /** 6, 9: a press can come if its thing is there and not grey; each thing by itself. */
    private static void things() {
        for (int k = 0; k < 8; k++) {
            int other = (k + 1) % 8;
            ClickOrders x = DUE.of("on press " + other + "{if a=0 hide " + k + ";if a=1 grey " + k + ";if a=2 show " + k + ";if a=3 live "
                + k + ";a=a+1;}");
            int[] due = {1, 0, 2, 3, 1};
            for (int round = 0; round < due.length; round++) {
                DUE.is("9: thing(" + k + ") " + round, x.thing(k), due[round]);
                DUE.is("6: can(" + k + ") " + round, x.can(k), due[round] == 1);
                DUE.is("9: the other", x.thing(other), 1);
                if (due[round] == 3) {
                    String ahead = Due.all(x);
                    DUE.is("7: come(" + k + ")", x.come(k), -1);
                    DUE.same("7: come(" + k + ")", Due.all(x), ahead);
                } else if (due[round] != 1) {
                    DUE.is("7: come(" + k + ")", x.come(k), -1);
                    DUE.is("7: it did not come", x.count(2), round);
                }
                x.come(other);
            }
        }
    }

    /** 8 to 11: the first and the last there is, and those beside them. */
    private static void indices() {
        ClickOrders x = DUE.of("on start{a=11;b=12;c=13;d=14;e=15;f=16;g=17;h=18;save 0 20;save 1 21;save 2 22;save 3 23;"
            + "ask 0 30;ask 1 31;ask 2 32;ask 3 33;hide 0;grey 7;}");
        for (int k = 0; k < 8; k++) {
            DUE.is("8: name(" + k + ")", x.name(k), 11 + k);
            DUE.is("36: shows(1, " + k + ")", x.shows(1, k), 11 + k);
            DUE.is("9: thing(" + k + ")", x.thing(k), k == 0 ? 0 : k == 7 ? 3 : 1);
        }
        for (int k = 0; k < 4; k++) {
            DUE.is("10: far(" + k + ")", x.far(k), 20 + k);
            DUE.is("11: line(" + k + ", 0)", x.line(k, 0), 30 + k);
        }
        DUE.is("13: none of these is a failure", x.failed(), false);
        ClickOrders failed = DUE.of("on press 0{fail;}");
        DUE.comes(failed, 0);
        DUE.is("10: a failure is none of these", failed.far(0) + failed.far(3) + failed.name(7) + failed.line(0, -1), 0);
        String ahead = Due.all(x);
        for (int k : FAR_OUT) {
            beside(x, k, true);
        }
        beside(x, -1, true);
        beside(x, 8, true);
        for (int k = 4; k < 8; k++) {
            beside(x, k, false);
        }
        DUE.same("8 to 11: wrong ones", Due.all(x), ahead);
    }

    private static void beside(ClickOrders x, int k, boolean isFar) {
        if (isFar) {
            DUE.throwing("8: name(" + k + ")", IndexOutOfBoundsException.class, () -> x.name(k));
            DUE.throwing("9: thing(" + k + ")", IndexOutOfBoundsException.class, () -> x.thing(k));
        }
        DUE.throwing("10: far(" + k + ")", IndexOutOfBoundsException.class, () -> x.far(k));
        DUE.throwing("11: line(" + k + ", -1)", IndexOutOfBoundsException.class, () -> x.line(k, -1));
        DUE.throwing("11: line(" + k + ", 0)", IndexOutOfBoundsException.class, () -> x.line(k, 0));
        DUE.throwing("11: line(" + k + ", 9)", IndexOutOfBoundsException.class, () -> x.line(k, 9));
    }

    private static void row(ClickOrders x, int line, int... due) {
        DUE.is("11: line(" + line + ", NONE)", x.line(line, -1), due.length);
        for (int k = 0; k < due.length; k++) {
            DUE.is("11: line(" + line + ", " + k + ")", x.line(line, k), due[k]);
        }
        for (int k = due.length; k < 5; k++) {
            DUE.is("11: line(" + line + ", " + k + ")", x.line(line, k), MIN);
        }
    }

    /** 11: a line from empty to full and back; each line is full by itself. */
    private static void lines() {
        for (int line = 0; line < 4; line++) {
            int code = 9 + line;
            ClickOrders x = DUE.of("on start{a=4;}on press 0{a=a+1;ask " + line + " a;}on press 1{stop " + line + ";}on answer " + line
                + "{b=b*10+got;}on press 2{ask " + (line + 1) % 4 + " 1;}");
            row(x, line);
            DUE.comes(x, 0);
            row(x, line, 5);
            DUE.comes(x, 0);
            row(x, line, 5, 6);
            DUE.comes(x, 0);
            row(x, line, 5, 6, 7);
            for (int k : FAR_OUT) {
                DUE.is("11: line(" + line + ", " + k + ")", x.line(line, k), MIN);
            }
            DUE.comes(x, 2, 2, 2);
            DUE.is("three on another line are well", x.failed(), false);
            DUE.comes(x, code);
            row(x, line, 6, 7);
            DUE.comes(x, 0);
            row(x, line, 6, 7, 8);
            DUE.comes(x, code, code);
            row(x, line, 8);
            DUE.comes(x, code);
            row(x, line);
            DUE.is("in the order in which they were asked", x.name(1), 5678);
            DUE.is("7: none is to come", x.come(code), -1);
            DUE.comes(x, 1);
            row(x, line);
            DUE.comes(x, 0, 1);
            row(x, line);
            DUE.comes(x, 0, 0, 0, 1);
            row(x, line);
            DUE.is("6: none can come", x.can(code), false);
            DUE.is("11: the other line's stay", x.line((line + 1) % 4, -1), 3);
            DUE.is("it never failed", x.failed(), false);
        }
        ClickOrders least = DUE.of("on start{ask 3 128*256*256*256;ask 3 0-1;}");
        row(least, 3, MIN, -1);
    }

    /** A fourth answer fails, what is full stays full, and what stood ahead of it in the handler stays. */
    private static void fullLines() {
        for (int line = 0; line < 4; line++) {
            ClickOrders x = DUE.of("on press 0{ask " + line + " 5;ask " + line + " 6;ask " + line + " 7;}on press 1{b=1;hide 6;ask " + line
                + " 8;b=2;show 6;}on press 2{stop " + line + ";ask " + line + " 9;}");
            DUE.comes(x, 0);
            DUE.is("13: three are well", x.failed(), false);
            DUE.comes(x, 1);
            DUE.is("13: a fourth is not", x.failed(), true);
            row(x, line, 5, 6, 7);
            DUE.is("what it did stays", x.name(1), 1);
            DUE.is("and things", x.thing(6), 0);
            DUE.comes(x, 2);
            row(x, line, 9);
            DUE.is("13: it stays failed", x.failed(), true);
        }
        ClickOrders start = DUE.of("on start{a=1;ask 0 1;ask 0 2;ask 0 3;ask 0 4;a=2;}");
        DUE.is("13: at the start", start.failed(), true);
        DUE.is("14: spoilt, though answers are to come", start.spoilt(), true);
        DUE.is("it ended there", start.name(0), 1);
        row(start, 0, 1, 2, 3);
    }

    private static void hours(ClickOrders x, int... due) {
        DUE.is("12: clock(NONE)", x.clock(-1), due.length);
        for (int k = 0; k < due.length; k++) {
            DUE.is("12: clock(" + k + ")", x.clock(k), due[k]);
        }
        for (int k = due.length; k < 5; k++) {
            DUE.is("12: clock(" + k + ")", x.clock(k), -1);
        }
    }

    /** 12: clocks from none to three, by hours, then as they were begun; hours go down to 0 and no further. */
    private static void clocks() {
        ClickOrders x = DUE.of("on press 0{clock 3 999;}on press 1{clock 0 0;}on press 2{clock 1 2;}on press 3{clock 2 2;}"
            + "on clock 0{a=a*10+1;}on clock 1{a=a*10+2;}on clock 2{a=a*10+3;}on clock 3{a=a*10+4;}");
        hours(x);
        DUE.comes(x, 0);
        hours(x, 3999);
        DUE.comes(x, 1);
        hours(x, 0, 3998);
        DUE.comes(x, 2);
        hours(x, 0, 1002, 3997);
        for (int k : FAR_OUT) {
            DUE.is("12: clock(" + k + ")", x.clock(k), -1);
        }
        DUE.comes(x, 7, 7);
        hours(x, 0, 1000, 3995);
        DUE.comes(x, 7, 7);
        hours(x, 0, 1000, 3993);
        DUE.comes(x, 8);
        hours(x, 1000, 3992);
        DUE.is("of equal ones the first begun", x.name(0), 1);
        DUE.comes(x, 3);
        hours(x, 1000, 2002, 3991);
        DUE.comes(x, 8, 8);
        hours(x, 3989);
        DUE.comes(x, 8);
        hours(x);
        DUE.is("all came", x.name(0), 1234);
        DUE.is("7: none is to come", x.come(8), -1);
        x.begin();
        DUE.comes(x, 3, 7, 2, 3, 7, 7, 7);
        hours(x, 2000, 1000, 2000);
        DUE.comes(x, 8, 8, 8);
        DUE.is("equal at 0, as they were begun", x.name(0), 323);
    }

    /** What can not come takes no hour from the clocks. */
    private static void hoursStay() {
        ClickOrders x = DUE.of("on start{clock 1 3;hide 2;}");
        DUE.is("7: can not", x.come(2), -1);
        DUE.is("7: can not, too", x.come(9), -1);
        DUE.throwing("7: no code", IllegalArgumentException.class, () -> x.come(13));
        hours(x, 1003);
        DUE.comes(x, 0);
        hours(x, 1002);
        DUE.comes(x, 8);
        hours(x);
    }

    /** A fourth clock fails, and the three stay as they are. */
    private static void fullClocks() {
        ClickOrders x = DUE.of("on press 0{clock 0 5;clock 1 5;clock 2 5;}on press 1{b=1;clock 3 0;b=2;}on clock 0{clock 3 9;}");
        DUE.comes(x, 0);
        DUE.is("13: three are well", x.failed(), false);
        DUE.comes(x, 8);
        DUE.is("13: one came, so that another is well", x.failed(), false);
        hours(x, 1004, 2004, 3009);
        DUE.comes(x, 1);
        DUE.is("13: a fourth is not", x.failed(), true);
        DUE.is("what it did stays", x.name(1), 1);
        hours(x, 1003, 2003, 3008);
        ClickOrders start = DUE.of("on start{clock 0 1;clock 0 1;clock 0 1;a=1;clock 0 1;a=2;}");
        DUE.is("13: at the start", start.failed(), true);
        DUE.is("it ended there", start.name(0), 1);
        hours(start, 1, 1, 1);
    }

    /** 7: forty happenings; behind them -2 for what can come, -1 for what can not, and nothing is done. */
    private static void forty() {
        ClickOrders x = DUE.of("on start{clock 0 60;ask 1 1;hide 5;}on press 0{a=a+1;}");
        for (int k = 0; k < 40; k++) {
            DUE.is("7: come number " + k, x.come(0), k);
        }
        String ahead = Due.all(x);
        DUE.is("7: a press", x.come(0), -2);
        DUE.is("7: a clock", x.come(8), -2);
        DUE.is("7: an answer", x.come(10), -2);
        DUE.is("7: a hidden thing is the first of these", x.come(5), -1);
        DUE.is("7: no answer", x.come(9), -1);
        DUE.throwing("7: no code", IllegalArgumentException.class, () -> x.come(13));
        DUE.same("7: the 41st", Due.all(x), ahead);
        DUE.is("6: it can come all the same", x.can(8), true);
        DUE.is("15: the last", x.happening(39, 0), 0);
        DUE.throwing("15: none behind it", NoSuchElementException.class, () -> x.happening(40, 0));
        DUE.is("12: forty hours", x.clock(0), 20);
    }

    /** 14: harm counts only while nothing at all is to come; a failure always. */
    private static void spoiling() {
        String text = "on press 0{a=1;}on press 1{clock 2 0;}on press 7{fail;}harm a=1;";
        for (int line = 0; line < 4; line++) {
            ClickOrders x = DUE.of(text + "on press 2{ask " + line + " 0;}on press 3{stop " + line + ";}");
            DUE.is("14: not yet", x.spoilt(), false);
            DUE.comes(x, 0);
            DUE.is("14: harm holds", x.spoilt(), true);
            DUE.comes(x, 2);
            DUE.is("14: an answer is to come on " + line, x.spoilt(), false);
            DUE.comes(x, 1, 3);
            DUE.is("14: a clock is to come", x.spoilt(), false);
            DUE.comes(x, 8);
            DUE.is("14: nothing is to come", x.spoilt(), true);
            DUE.is("13: that is no failure", x.failed(), false);
            DUE.comes(x, 2, 7);
            DUE.is("14: a failure spoils though an answer is to come", x.spoilt(), true);
        }
        DUE.is("14: harm holds at the beginning", DUE.of("harm a=0;").spoilt(), true);
        DUE.is("14: harm of a far row", DUE.of("on start{save 3 7;}harm far 3=7;").spoilt(), true);
        DUE.is("14: place is no harm", DUE.of("place a=1;").spoilt(), false);
    }

    /** 15: which happenings there are, and what can be asked of one. */
    private static void happenings() {
        ClickOrders x = DUE.of("on press 0{a=1;}");
        DUE.throwing("15: of an empty run", NoSuchElementException.class, () -> x.happening(0, 0));
        DUE.throwing("15: of an empty run, too", NoSuchElementException.class, () -> x.happening(-1, 3));
        DUE.comes(x, 0, 5);
        String ahead = Due.all(x);
        for (int k : FAR_OUT) {
            DUE.throwing("15: happening(" + k + ", 0)", NoSuchElementException.class, () -> x.happening(k, 0));
            DUE.throwing("15: happening(0, " + k + ")", IllegalArgumentException.class, () -> x.happening(0, k));
            DUE.throwing("15: happening(1, " + k + ")", IllegalArgumentException.class, () -> x.happening(1, k));
        }
        DUE.throwing("15: happening(2, 0)", NoSuchElementException.class, () -> x.happening(2, 0));
        DUE.throwing("15: happening(-1, 0)", NoSuchElementException.class, () -> x.happening(-1, 0));
        DUE.throwing("15: happening(0, 4)", IllegalArgumentException.class, () -> x.happening(0, 4));
        DUE.throwing("15: happening(0, -1)", IllegalArgumentException.class, () -> x.happening(0, -1));
        DUE.same("15: wrong ones", Due.all(x), ahead);
        int[] due = {5, -1, 1 << 13, 0};
        for (int what = 0; what < 4; what++) {
            DUE.is("15: happening(1, " + what + ")", x.happening(1, what), due[what]);
        }
    }

    private static void touches(String steps, int reads, int writes) {
        ClickOrders x = DUE.of("on start{ask 0 4;}on answer 0{" + steps + "}");
        DUE.comes(x, 9);
        DUE.is("15: reads of " + steps, x.happening(0, 2), reads);
        DUE.is("15: writes of " + steps, x.happening(0, 3), writes | 1 << 20);
    }

    /** 15: each item from the first to the last, read and written; only what was worked counts. */
    private static void items() {
        for (int k = 0; k < 8; k++) {
            char name = (char) ('a' + k);
            touches(name + "=1;", 0, 1 << k);
            touches(name + "=" + name + ";", 1 << k, 1 << k);
            touches("if " + name + "=1 fail;", 1 << k, 0);
            touches("show " + k + ";", 0, 256 << k);
            touches("hide " + k + ";", 0, 256 << k);
            touches("grey " + k + ";", 0, 256 << k);
            touches("live " + k + ";", 0, 256 << k);
            ClickOrders x = new ClickOrders();
            x.come(k);
            DUE.is("15: a press reads its thing", x.happening(0, 2), 256 << k);
            DUE.is("15: and writes nothing", x.happening(0, 3), 0);
        }
        for (int k = 0; k < 4; k++) {
            touches("save " + k + " 1;", 0, 1 << 16 + k);
            touches("save " + k + " far " + k + ";", 1 << 16 + k, 1 << 16 + k);
            touches("ask " + k + " h;", 128, 1 << 20 + k);
            touches("stop " + k + ";", 0, 1 << 20 + k);
            ClickOrders x = DUE.of("on start{ask " + k + " 1;clock " + k + " 1;}");
            DUE.comes(x, 9 + k, 8);
            DUE.is("15: an answer reads nothing", x.happening(0, 2), 0);
            DUE.is("15: it writes its line", x.happening(0, 3), 1 << 20 + k);
            DUE.is("15: a clock reads nothing", x.happening(1, 2), 0);
            DUE.is("15: and writes nothing", x.happening(1, 3), 0);
        }
        touches("", 0, 0);
        touches("clock 3 9;", 0, 0);
        touches("a=got;", 0, 1);
        touches("fail;a=b;show 1;", 0, 0);
        touches("if 1=2 a=b;", 0, 0);
        touches("if 1=1 a=b;", 2, 1);
        touches("if c=1 if d=1 e=1;", 4, 0);
        touches("if c=0 if d=1 e=1;", 4 | 8, 0);
        touches("if c=0 or d=1 or far 3=1 e=1;", 4 | 8 | 1 << 19, 16);
        touches("if c=1 and d=1 and far 2=1 e=1;", 4 | 8 | 1 << 18, 0);
        touches("if not[c=0 or not d=1]e=1;", 4 | 8, 0);
        touches("a=0*b+c/0;", 2 | 4, 1);
        touches("a=least(b,most(c,far 1));", 2 | 4 | 1 << 17, 1);
    }

    /** 15: by which it was begot: NONE for a press and for what the start began, else the number of that happening. */
    private static void begetting() {
        ClickOrders x = DUE.of("on start{ask 3 1;clock 0 9;ask 3 2;}on press 0{ask 3 3;}on press 1{clock 1 0;}on clock 1{ask 2 1;}"
            + "on answer 2{ask 2 2;}");
        DUE.comes(x, 0, 12, 12, 12, 1, 8, 11, 11, 8);
        int[] due = {-1, -1, -1, 0, -1, 4, 5, 6, -1};
        for (int k = 0; k < due.length; k++) {
            DUE.is("15: happening(" + k + ", 1)", x.happening(k, 1), due[k]);
        }
        ClickOrders last = DUE.of("on press 0{stop 0;ask 0 1;clock 0 0;}on press 1{ask 0 1;ask 0 1;}");
        DUE.comes(last, 0, 1, 0, 9, 8, 8);
        int[] begot = {-1, -1, -1, 2, 0, 2};
        for (int k = 0; k < begot.length; k++) {
            DUE.is("15: happening(" + k + ", 1) of the latter", last.happening(k, 1), begot[k]);
        }
        last.begin();
        for (int k = 0; k < 38; k++) {
            last.come(7);
        }
        DUE.comes(last, 0, 9);
        DUE.is("15: the fortieth", last.happening(39, 1), 38);
    }

    /** got is the number of the answer that came, and 0 for all that is no answer, also behind one. */
    private static void got() {
        ClickOrders x = DUE.of("on start{a=got;ask 0 7;clock 0 9;}on answer 0{b=got;ask 1 got+1;}on answer 1{c=got;}on press 0{d=got;}"
            + "on clock 0{e=got;}");
        DUE.comes(x, 9);
        DUE.is("got of an answer", x.name(1), 7);
        DUE.comes(x, 0);
        DUE.is("got of a press", x.name(3), 0);
        DUE.comes(x, 10);
        DUE.is("got of another answer", x.name(2), 8);
        DUE.comes(x, 8);
        DUE.is("got of a clock", x.name(4), 0);
        x.begin();
        DUE.comes(x, 9);
        x.begin();
        DUE.is("got of the start, begun behind an answer", x.name(0), 0);
    }

    public static void main(String[] args) {
        valuesWrap();
        divisions();
        comparisons();
        beginning();
        codes();
        things();
        indices();
        lines();
        fullLines();
        clocks();
        hoursStay();
        fullClocks();
        forty();
        spoiling();
        happenings();
        items();
        begetting();
        got();
        DUE.ends();
    }
}
