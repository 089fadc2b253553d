import java.util.NoSuchElementException;

/** Promises 16 to 21 at their edges: what is just ordered and just not, each sort of a turned crossing beside the next. */
public final class OrderEdgesTest {
    private static final Due DUE = new Due();
    private static final int[] FAR_OUT = {Integer.MIN_VALUE, -64, -2, -1, 64, Integer.MAX_VALUE};

    /** The whole table of what is ordered: of each happening those ahead of it. */
    private static void table(String told, ClickOrders x, String... ahead) {
        DUE.is(told + ": happenings", x.count(2), ahead.length);
        for (int j = 0; j < ahead.length; j++) {
            for (int i = 0; i < ahead.length; i++) {
                boolean due = (" " + ahead[j] + " ").contains(" " + i + " ");
                DUE.is("16: " + told + ": ordered(" + i + ", " + j + ")", x.ordered(i, j), due);
            }
        }
    }

    /** 16, 19, 20: no such happening in either place; a refused call leaves all as it was. */
    private static void noSuchOnes() {
        ClickOrders x = DUE.of("on press 0{a=a+1;}");
        DUE.throwing("16: ordered(0, 0) of none", NoSuchElementException.class, () -> x.ordered(0, 0));
        DUE.throwing("19: why(0, 0) of none", NoSuchElementException.class, () -> x.why(0, 0));
        DUE.throwing("20: turn(0, 0) of none", NoSuchElementException.class, () -> x.turn(0, 0));
        DUE.comes(x, 0, 0);
        String ahead = Due.all(x);
        for (int k : FAR_OUT) {
            wrong(x, k, 0);
            wrong(x, 1, k);
            wrong(x, k, k);
        }
        wrong(x, 2, 0);
        wrong(x, 0, 2);
        wrong(x, 2, 2);
        wrong(x, 1, 2);
        DUE.same("16 to 20: no such ones", Due.all(x), ahead);
        DUE.is("16: the last one", x.ordered(0, 1), false);
        DUE.is("19: the last one", x.why(0, 1), 0);
        DUE.is("20: the last one", x.turn(0, 1), 1);
        DUE.same("16 to 20: nothing comes of it", Due.all(x), ahead);
    }

    private static void wrong(ClickOrders x, int i, int j) {
        String pair = "(" + i + ", " + j + ")";
        DUE.throwing("16: ordered" + pair, NoSuchElementException.class, () -> x.ordered(i, j));
        DUE.throwing("19: why" + pair, NoSuchElementException.class, () -> x.why(i, j));
        DUE.throwing("20: turn" + pair, NoSuchElementException.class, () -> x.turn(i, j));
    }

    private static void begotten() {
        ClickOrders x = DUE.of("on press 0{ask 0 1;clock 0 5;}on answer 0{ask 1 1;}on clock 0{ask 2 1;}on start{ask 3 1;}");
        DUE.comes(x, 0, 9, 8, 10, 11, 12, 0);
        table("begot, and by a chain", x, "", "0", "0", "0 1", "0 2", "", "");
    }

    /** Two clocks are ordered, two answers of one line are, and by a chain what begot them; others are not. */
    private static void alikeOnes() {
        ClickOrders x = DUE.of("on press 0{clock 0 9;}on press 1{clock 1 7;}on press 2{ask 0 1;}on press 3{ask 1 1;}");
        DUE.comes(x, 0, 1, 8, 8);
        table("clocks", x, "", "", "1", "0 1 2");
        x.begin();
        DUE.comes(x, 2, 2, 3, 9, 10, 9);
        table("answers", x, "", "", "", "0", "2", "0 1 3");
        x.begin();
        DUE.comes(x, 2, 0, 9, 8, 5, 5);
        table("a clock and an answer, and presses of one thing", x, "", "", "0", "1", "", "");
        ClickOrders start = DUE.of("on start{clock 0 0;clock 0 0;ask 3 1;ask 3 1;ask 2 1;}");
        DUE.comes(start, 12, 8, 11, 8, 12);
        table("of the start", start, "", "", "", "1", "0");
    }

    /** A press is ordered behind the latest one that made its thing there and not grey when it was not. */
    private static void freed() {
        ClickOrders x = DUE.of("on start{hide 1;grey 1;hide 2;grey 3;}on press 0{show 1;show 2;live 3;}on press 4{live 1;show 2;live 3;}"
            + "on press 5{hide 1;show 1;hide 7;}on press 6{hide 3;}on press 7{show 3;}");
        DUE.comes(x, 0, 4, 1, 2, 3);
        table("hidden and grey", x, "", "", "1", "0", "0");
        x.begin();
        DUE.comes(x, 4, 0, 1, 2, 3);
        table("grey and hidden", x, "", "", "1", "0", "0");
        x.begin();
        DUE.comes(x, 0, 4, 5, 1);
        table("hidden and shown by one", x, "", "", "", "1");
        x.begin();
        DUE.comes(x, 0, 3, 6, 7, 3, 6, 7, 0, 3);
        table("the latest", x, "", "0", "", "", "3", "", "", "", "6");
        ClickOrders free = DUE.of("on press 0{show 1;live 1;}on press 2{grey 1;hide 1;}");
        DUE.comes(free, 0, 1, 2, 0, 1);
        table("free from the start on", free, "", "", "", "", "3");
        ClickOrders others = DUE.of("on start{hide 1;clock 0 0;ask 0 1;}on clock 0{hide 1;show 1;}on answer 0{hide 1;live 1;show 1;}");
        DUE.comes(others, 8, 9, 1);
        table("by a clock", others, "", "", "0");
        others.begin();
        DUE.comes(others, 9, 8, 1);
        table("by an answer", others, "", "", "0");
    }

    private static void chains() {
        ClickOrders x = DUE.of("on start{hide 1;hide 2;hide 3;}on press 0{show 1;}on press 1{show 2;}on press 2{show 3;}"
            + "on press 3{ask 0 1;clock 0 0;}");
        DUE.comes(x, 0, 4, 1, 2, 3, 9, 8, 4);
        table("a chain of six", x, "", "", "0", "0 2", "0 2 3", "0 2 3 4", "0 2 3 4", "");
        ClickOrders fortieth = DUE.of("on press 0{ask 0 1;}on answer 0{ask 0 1;}");
        fortieth.come(0);
        for (int k = 1; k < 40; k++) {
            DUE.is("16: come number " + k, fortieth.come(9), k);
        }
        DUE.is("16: the first ahead of the last", fortieth.ordered(0, 39), true);
        DUE.is("16: the 39th ahead of the last", fortieth.ordered(38, 39), true);
        DUE.is("16: not the last ahead of the first", fortieth.ordered(39, 0), false);
        DUE.is("16: nor ahead of itself", fortieth.ordered(39, 39), false);
        DUE.is("17: what is ordered is no crossing", fortieth.crossings(), 0);
    }

    /** Whether press 0 and press 1 are a crossing, and over which item, the least one first. */
    private static void meets(String one, String other, int due) {
        ClickOrders x = DUE.of("on press 0{" + one + "}on press 1{" + other + "}");
        DUE.comes(x, 0, 1);
        DUE.is("19: why of " + one + " and " + other, x.why(0, 1), due);
        DUE.is("19: in the other order", x.why(1, 0), due);
        DUE.is("17: crossings()", x.crossings(), due < 0 ? 0 : 1);
        DUE.is("18: crossing(0)", x.crossing(0), due < 0 ? -1 : 1);
        DUE.is("18: crossing(1)", x.crossing(1), -1);
        DUE.is("20: turn", x.turn(0, 1) < 0, due < 0);
        DUE.is("20: in the other order", x.turn(1, 0), x.turn(0, 1));
        DUE.is("19: of one", x.why(1, 1), -1);
        DUE.is("20: of one", x.turn(0, 0), -1);
        int sum = 0;
        for (int sort = 0; sort < 5; sort++) {
            sum += x.sorts(sort);
        }
        DUE.is("21: all sorts", sum, due < 0 ? 0 : 1);
    }

    private static void crossing() {
        for (int k = 0; k < 8; k++) {
            char name = (char) ('a' + k);
            meets(name + "=1;", name + "=2;", k);
            meets(name + "=1;", "if " + name + "=7 fail;", k);
            meets("if " + name + "=7 fail;", name + "=1;", k);
            meets("if " + name + "=7 fail;", "if " + name + "=6 fail;", -1);
        }
        for (int k = 2; k < 8; k++) {
            meets("show " + k + ";", "live " + k + ";", 8 + k);
            meets("show " + k + ";", "", -1);
        }
        meets("grey 5;", "h=1;hide 5;", 13);
        meets("show 1;", "", 9);
        meets("", "live 0;", 8);
        meets("", "", -1);
        for (int k = 0; k < 4; k++) {
            meets("save " + k + " 1;", "save " + k + " 1;", 16 + k);
            meets("save " + k + " 1;", "if far " + k + "=3 fail;", 16 + k);
            meets("if far " + k + "=3 fail;", "save " + k + " 1;", 16 + k);
            meets("if far " + k + "=3 fail;", "if far " + k + "=3 fail;", -1);
            meets("ask " + k + " 1;", "ask " + k + " 1;", 20 + k);
            meets("stop " + k + ";", "stop " + k + ";", 20 + k);
            meets("ask " + k + " 1;", "ask " + (k + 1) % 4 + " 1;", -1);
            meets("clock " + k + " 1;", "clock " + k + " 1;", -1);
        }
        meets("h=1;show 3;save 0 1;ask 0 1;", "ask 0 1;save 0 1;show 3;h=1;", 7);
        meets("b=a;", "a=b;", 0);
        meets("b=a;", "c=a;", -1);
        meets("ask 3 1;save 3 1;show 7;", "hide 7;save 3 2;stop 3;", 15);
    }

    /** 17, 18: none, one, and as many as there can be; by the first, then by the second. */
    private static void manyCrossings() {
        ClickOrders x = DUE.of("on press 0{a=1;}on press 1{b=a;}on press 2{c=b;}");
        DUE.is("17: of none", x.crossings(), 0);
        DUE.is("18: of none", x.crossing(0), -1);
        x.come(0);
        DUE.is("17: of one", x.crossings(), 0);
        DUE.is("18: of one", x.crossing(0), -1);
        DUE.comes(x, 2, 1, 0);
        int[] due = {2, 3, 64 + 2, 2 * 64 + 3};
        DUE.is("17: of four", x.crossings(), due.length);
        for (int k = 0; k < due.length; k++) {
            DUE.is("18: crossing(" + k + ")", x.crossing(k), due[k]);
        }
        DUE.is("18: crossing(4)", x.crossing(4), -1);
        for (int k : FAR_OUT) {
            DUE.is("18: crossing(" + k + ")", x.crossing(k), -1);
        }
        ClickOrders all = DUE.of("on press 0{a=1;}");
        for (int k = 0; k < 40; k++) {
            all.come(0);
        }
        DUE.is("17: of 40", all.crossings(), 780);
        DUE.is("18: the first", all.crossing(0), 1);
        DUE.is("18: the 39th", all.crossing(38), 39);
        DUE.is("18: the 40th", all.crossing(39), 64 + 2);
        DUE.is("18: the last", all.crossing(779), 38 * 64 + 39);
        DUE.is("18: behind it", all.crossing(780), -1);
        DUE.is("20: the last", all.turn(39, 38), 1);
        DUE.is("20: the first and the last", all.turn(0, 39), 1);
        DUE.is("21: all are the same", all.sorts(1), 780);
    }

    private static int turned(String text, int i, int j, int... codes) {
        ClickOrders x = DUE.of(text);
        DUE.comes(x, codes);
        DUE.is("20: in the other order", x.turn(j, i), x.turn(i, j));
        return x.turn(i, j);
    }

    /** 0 comes first: j was left out, though the page failed, or is otherwise, or is the same. */
    private static void leftOut() {
        String show = "on press 0{a=1;}on press 1{if a=1 show 2;}on press 2{b=a;}";
        DUE.is("20: what showed j's thing did not", turned("on start{hide 2;}" + show, 0, 2, 0, 1, 2), 0);
        String fail = "on press 0{a=1;}on press 1{if a=1 show 2;if a=0 fail;}on press 2{b=a;}";
        DUE.is("20: j was left out, and it failed", turned("on start{hide 2;}" + fail, 0, 2, 0, 1, 2), 0);
        DUE.is("20: j was left out, the run failed", turned("on start{hide 2;}" + show + "on press 5{fail;}", 0, 2, 0, 1, 2, 5), 0);
        DUE.is("20: only j counts, i may be left out", turned("on press 0{a=1;}on press 1{a=2;hide 0;}", 0, 1, 0, 1), 1);
        DUE.is("20: those between, too", turned("on press 0{a=1;}on press 1{a=2;hide 3;}on press 3{b=1;}", 0, 2, 0, 3, 1), 3);
        DUE.is("20: and those behind", turned("on press 0{if b=1 hide 3;a=1;}on press 1{b=1;a=1;}on press 3{a=1;}", 0, 1, 0, 1, 3), 3);
    }

    /** 4 comes next: it failed and the run did not, though the page is otherwise, too. */
    private static void failures() {
        String text = "on press 0{a=1;}on press 1{if a=0 fail;b=1;}on press 2{a=1;fail;}";
        DUE.is("20: it failed", turned(text, 0, 1, 0, 1), 4);
        DUE.is("20: it failed, but the run did, too", turned(text, 0, 1, 0, 1, 2), 3);
        DUE.is("20: the run failed alone", turned(text, 0, 1, 1, 0), 3);
        String alike = "on press 0{a=1;}on press 1{if a=0 fail;}on press 2{fail;}";
        DUE.is("20: both failed, and are alike", turned(alike, 0, 1, 0, 1, 2), 1);
        DUE.is("20: the run failed alone, all else alike", turned(alike, 0, 1, 1, 0), 3);
        DUE.is("20: it failed, all else alike", turned(alike, 0, 1, 0, 1), 4);
        String full = "on press 0{ask 0 a;}on press 1{ask 0 a;}on press 2{stop 0;}";
        DUE.is("20: asks on either side of a stop", turned(full, 1, 2, 0, 2, 1, 0, 0), 3);
        DUE.is("20: a fourth ask ahead of the stop", turned(full, 3, 4, 0, 0, 0, 2, 0), 4);
    }

    /** 3 before 2 before 1: what the page is at the end, then what it was on the way. */
    private static void pages() {
        DUE.is("20: otherwise, and on the way, too", turned("on press 0{a=1;}on press 1{a=2;}", 0, 1, 0, 1), 3);
        DUE.is("20: on the way a name", turned("on press 0{a=a+1;}on press 1{a=a+2;}", 0, 1, 0, 1), 2);
        DUE.is("20: on the way a thing", turned("on press 0{a=0;hide 5;}on press 1{a=0;hide 6;}", 0, 1, 0, 1), 2);
        DUE.is("20: on the way a grey thing", turned("on press 0{a=0;grey 5;}on press 1{a=0;hide 5;}", 0, 1, 0, 1), 2);
        DUE.is("20: on the way a far row, which is none of these", turned("on press 0{save 0 far 0+1;}on press 1{save 0 far 0+2;}", 0, 1,
            0, 1), 1);
        DUE.is("20: on the way as at the beginning", turned("on press 0{a=1-a;}on press 1{a=0+a;}", 0, 1, 0, 1), 1);
        DUE.is("20: on the way as behind a later one", turned("on press 0{a=a+1;}on press 1{a=a+2;}on press 2{a=a-1;}", 0, 1, 0, 1, 2), 1);
        DUE.is("20: on the way as at no time", turned("on press 0{a=a+1;}on press 1{a=a+2;}on press 2{a=a-2;}", 0, 1, 0, 1, 2), 2);
        DUE.is("20: the order of answers", turned("on press 0{ask 3 1;}on press 1{ask 3 2;}", 0, 1, 0, 1), 3);
        for (int line = 0; line < 4; line++) {
            String text = "on press 0{ask " + line + " 1;clock 0 0;}on press 1{ask " + line + " 1;clock 0 0;}";
            DUE.is("20: answers and clocks that are alike, by whom they were begot", turned(text, 0, 1, 0, 1), 1);
            DUE.is("20: and of three, one of which came", turned(text, 1, 2, 0, 0, 1, 9 + line), 1);
        }
        DUE.is("20: the order of clocks", turned("on press 0{a=0;clock 0 0;}on press 1{a=0;clock 1 0;}", 0, 1, 0, 1), 3);
        DUE.is("20: hours", turned("on press 0{a=0;clock 0 1;}on press 1{a=0;}", 0, 1, 0, 1), 3);
        DUE.is("20: hours that are 0", turned("on press 0{a=0;clock 0 0;}on press 1{a=0;}", 0, 1, 0, 1), 1);
        DUE.is("20: a far row", turned("on press 0{save 3 1;}on press 1{save 3 2;}", 0, 1, 0, 1), 3);
        DUE.is("20: a far row that is alike", turned("on press 0{save 3 1;}on press 1{save 3 1;}", 0, 1, 0, 1), 1);
        DUE.is("20: a thing that is there", turned("on press 0{show 7;}on press 1{hide 7;}", 0, 1, 0, 1), 3);
        DUE.is("20: a thing that is grey", turned("on press 0{live 7;}on press 1{grey 7;}", 0, 1, 0, 1), 3);
    }

    /** Ahead of i all; of those between the ones ordered ahead of j first; then j, i, the others, all behind j. */
    private static void groups() {
        String note = "on start{hide 6;}on press 0{a=a*9+1;}on press 1{a=a*9+2;show 6;}on press 2{a=a*9+3;}on press 3{a=a*9+4;}"
            + "on press 4{a=a*9+5;}on press 6{a=a*9+6;}";
        ClickOrders x = DUE.of(note + "harm a=1;");
        DUE.comes(x, 2, 0, 3, 1, 4, 6, 3);
        // turned 1 and 5: 2, then 1 (it showed 6), then 6, 0, 3, 4, 3
        DUE.is("16: 1 ahead of 6", x.ordered(3, 5), true);
        DUE.is("20: it is otherwise", x.turn(1, 5), 3);
        int due = 0;
        for (int digit : new int[] {3, 2, 6, 1, 4, 5, 4}) {
            due = due * 9 + digit;
        }
        ClickOrders fail = DUE.of(note.replace("on press 3{a=a*9+4;}", "on press 3{a=a*9+4;if a/999/999=" + due / 999 / 999
            + " and a-a/999*999=" + due % 999 + " fail;}"));
        DUE.comes(fail, 2, 0, 3, 1, 4, 6, 3);
        DUE.is("20: each group in its order", fail.turn(1, 5), 4);
        DUE.is("20: other turns are in other orders", fail.turn(2, 4), 3);
        ClickOrders next = DUE.of("on start{hide 6;}on press 0{a=a+1;show 6;}on press 1{b=a;}on press 6{b=a;if a>1 fail;}");
        DUE.comes(next, 0, 1, 6);
        DUE.is("16: the one ahead of i is ahead of j", next.ordered(0, 2), true);
        DUE.is("20: it comes once", next.turn(1, 2), 1);
    }

    private static void noSuchSorts() {
        ClickOrders x = DUE.of("on start{ask 1 0;}on press 0{a=1;}on press 1{a=2;}on answer 1{a=1;}");
        DUE.comes(x, 0, 1, 10);
        String ahead = Due.all(x);
        for (int sort : new int[] {-1, 5, Integer.MIN_VALUE, Integer.MAX_VALUE}) {
            DUE.throwing("21: sorts(" + sort + ")", IllegalArgumentException.class, () -> x.sorts(sort));
        }
        DUE.same("21: no such sorts", Due.all(x), ahead);
    }

    private static void tally(String told, ClickOrders x, int... due) {
        int sum = 0;
        for (int sort = 0; sort < 5; sort++) {
            DUE.is("21: " + told + ": sorts(" + sort + ")", x.sorts(sort), due[sort]);
            sum += due[sort];
        }
        DUE.is("21: " + told + ": all", x.crossings(), sum);
    }

    /** 21: the sorts of a run that goes on, begins anew, has forms on, and another program. */
    private static void sorts() {
        ClickOrders x = DUE.of("on start{ask 1 0;}on press 0{a=1;}on press 1{a=2;}on answer 1{a=1;}");
        tally("of none", x, 0, 0, 0, 0, 0);
        DUE.comes(x, 10);
        tally("of one", x, 0, 0, 0, 0, 0);
        DUE.comes(x, 1);
        tally("of two", x, 0, 0, 0, 1, 0);
        DUE.comes(x, 0);
        tally("of three", x, 0, 1, 0, 2, 0);
        x.form(0, 1, 1, 0);
        tally("with a form that is off", x, 0, 1, 0, 2, 0);
        x.use(0, true);
        tally("with a form", x, 1, 0, 0, 2, 0);
        x.use(0, false);
        tally("without it again", x, 0, 1, 0, 2, 0);
        x.begin();
        tally("begun anew", x, 0, 0, 0, 0, 0);
        DUE.comes(x, 0, 1);
        tally("behind that", x, 0, 0, 0, 1, 0);
        Due.reads(x, "on press 0{a=a+1;}on press 1{a=a+2;}");
        tally("of another program", x, 0, 0, 0, 0, 0);
        DUE.comes(x, 0, 1);
        tally("behind that one", x, 0, 0, 1, 0, 0);
        x.come(12);
        tally("behind what can not come", x, 0, 0, 1, 0, 0);
    }

    public static void main(String[] args) {
        noSuchOnes();
        begotten();
        alikeOnes();
        freed();
        chains();
        crossing();
        manyCrossings();
        leftOut();
        failures();
        pages();
        groups();
        noSuchSorts();
        sorts();
        DUE.ends();
    }
}
