import java.util.NoSuchElementException;

/** Promises 5 to 15: what can come, what comes, and what it does to the run's page. */
public final class RunTest {
    private static final Due DUE = new Due();
    private static final int VOID = Integer.MIN_VALUE;

    /** The value of a, worked as b is 7, c is 0 less 3 and far row 1 is 4. */
    private static void worth(String sum, int due) {
        ClickOrders x = DUE.of("on start{b=7;c=0-3;save 1 4;a=" + sum + ";}");
        DUE.is(sum, x.name(0), due);
    }

    private static void holds(String condition, boolean due) {
        ClickOrders x = DUE.of("on start{b=7;c=0-3;if " + condition + " a=1;}");
        DUE.is(condition, x.name(0) == 1, due);
        ClickOrders y = DUE.of("on start{b=7;c=0-3;}harm " + condition + ";");
        DUE.is("harm " + condition, y.spoilt(), due);
    }

    private static void values() {
        worth("1+2*3", 7);
        worth("(1+2)*3", 9);
        worth("2*3+4", 10);
        worth("2-3*2+1", -3);
        worth("80/4/2", 10);
        worth("10-4-3", 3);
        worth("b/2", 3);
        worth("c/2", -1);
        worth("b/0", 0);
        worth("b/2*2", 6);
        worth("far 1*far 1-far 0", 16);
        worth("got", 0);
        worth("least(b,c)", -3);
        worth("most(b,c)", 7);
        worth("least(2,2)+most(1,(0-1))", 3);
        worth("999*999*999*999", (int) (999L * 999 * 999 * 999));
        worth("(0-2)*128*128*128*256*2/(0-1)", (int) -(-2L * 128 * 128 * 128 * 256 * 2));
        worth("(0-1)*256*256*256*128/(0-1)", Integer.MIN_VALUE);
        worth("007", 7);
    }

    private static void conditions() {
        holds("b=7", true);
        holds("b<7", false);
        holds("b>6", true);
        holds("c<0", true);
        holds("not b=7", false);
        holds("not not b=7", true);
        holds("b=1 or b=7", true);
        holds("b=7 and c=1", false);
        holds("b=7 or b=1 and b=2", true);
        holds("[b=7 or b=1] and b=2", false);
        holds("b=1 and b=2 or b=7", true);
        holds("b=1 and b=7 and b=7 or b=2 or b=3", false);
        holds("not b=1 and c<0", true);
        holds("not [b=1 or c<0]", false);
        holds("b+c=2+2", true);
    }

    private static void bothSidesAreWorked() {
        ClickOrders x = DUE.of("on press 0{if a=0 or b=far 2 c=1;if a=1 and d=0 e=1;}");
        DUE.comes(x, 0);
        DUE.is("reads of both sides", x.happening(0, 2), 1 | 2 | 8 | 1 << 8 | 1 << 18);
        DUE.is("writes of what was done", x.happening(0, 3), 4);
    }

    private static void things() {
        ClickOrders x = DUE.of("on press 0{hide 1;grey 2;hide 3;grey 3;}on press 4{show 1;live 2;live 3;show 7;}");
        DUE.comes(x, 0);
        DUE.is("hidden", x.thing(1), 0);
        DUE.is("grey", x.thing(2), 3);
        DUE.is("hidden and grey", x.thing(3), 2);
        DUE.is("can(1) hidden", x.can(1), false);
        DUE.is("can(2) grey", x.can(2), false);
        DUE.is("come(2) grey", x.come(2), -1);
        DUE.comes(x, 4);
        DUE.is("shown", x.thing(1), 1);
        DUE.is("live", x.thing(2), 1);
        DUE.is("live but hidden", x.thing(3), 0);
        DUE.is("writes of things", x.happening(1, 3), (2 | 4 | 8 | 128) << 8);
        for (int k : new int[] {-1, 8, VOID}) {
            DUE.throwing("name(" + k + ")", IndexOutOfBoundsException.class, () -> x.name(k));
            DUE.throwing("thing(" + k + ")", IndexOutOfBoundsException.class, () -> x.thing(k));
        }
    }

    private static void codes() {
        ClickOrders x = new ClickOrders();
        for (int code : new int[] {-1, 13, VOID, Integer.MAX_VALUE}) {
            DUE.throwing("can(" + code + ")", IllegalArgumentException.class, () -> x.can(code));
            DUE.throwing("come(" + code + ")", IllegalArgumentException.class, () -> x.come(code));
        }
        for (int code = 8; code < 13; code++) {
            DUE.is("can(" + code + ") with nothing to come", x.can(code), false);
            DUE.is("come(" + code + ") with nothing to come", x.come(code), -1);
        }
        DUE.is("nothing came", x.count(2), 0);
    }

    private static void lines() {
        ClickOrders x = DUE.of("on press 0{ask 1 5;ask 1 a+6;ask 3 7;}on answer 1{b=b*10+got;}on press 1{stop 1;}");
        DUE.comes(x, 0);
        DUE.is("line(1, NONE)", x.line(1, -1), 2);
        DUE.is("line(1, 0)", x.line(1, 0), 5);
        DUE.is("line(1, 1)", x.line(1, 1), 6);
        DUE.is("line(1, 2)", x.line(1, 2), VOID);
        DUE.is("line(1, -2)", x.line(1, -2), VOID);
        DUE.is("line(0, NONE)", x.line(0, -1), 0);
        DUE.is("line(0, 0)", x.line(0, 0), VOID);
        DUE.throwing("line(4, 0)", IndexOutOfBoundsException.class, () -> x.line(4, 0));
        DUE.throwing("line(-1, -1)", IndexOutOfBoundsException.class, () -> x.line(-1, -1));
        DUE.is("can(10)", x.can(10), true);
        DUE.is("can(9)", x.can(9), false);
        DUE.comes(x, 10, 10);
        DUE.is("the first came first", x.name(1), 56);
        DUE.is("it is gone", x.can(10), false);
        DUE.is("an answer without a handler comes too", x.come(12), 3);
        DUE.is("and writes its line", x.happening(3, 3), 1 << 23);
        DUE.comes(x, 0, 1);
        DUE.is("stop takes all", x.line(1, -1), 0);
        DUE.is("of that line alone", x.line(3, -1), 1);
        DUE.is("stop writes the line", x.happening(5, 3), 1 << 21);
        DUE.is("count(3)", x.count(3), 1);
    }

    private static void farRows() {
        ClickOrders x = DUE.of("on press 0{save 0 8;save 3 far 0+1;a=far 3;}");
        DUE.comes(x, 0);
        DUE.is("far(0)", x.far(0), 8);
        DUE.is("far(3)", x.far(3), 9);
        DUE.is("far(1)", x.far(1), 0);
        DUE.is("a of far 3", x.name(0), 9);
        DUE.is("reads", x.happening(0, 2), 1 << 8 | 1 << 16 | 1 << 19);
        DUE.is("writes", x.happening(0, 3), 1 | 1 << 16 | 1 << 19);
        DUE.throwing("far(4)", IndexOutOfBoundsException.class, () -> x.far(4));
        DUE.throwing("far(-1)", IndexOutOfBoundsException.class, () -> x.far(-1));
    }

    private static void clocks() {
        ClickOrders x = DUE.of("on press 0{clock 2 3;clock 1 1;}on press 1{clock 3 0;}on clock 1{a=a*10+1;}"
            + "on clock 2{a=a*10+2;}on clock 3{a=a*10+3;clock 0 4;}");
        DUE.is("clock(NONE) without", x.clock(-1), 0);
        DUE.is("clock(0) without", x.clock(0), -1);
        DUE.comes(x, 0);
        DUE.is("clock(0)", x.clock(0), 1001);
        DUE.is("clock(1)", x.clock(1), 2003);
        DUE.is("clock(2)", x.clock(2), -1);
        DUE.is("clock(-2)", x.clock(-2), -1);
        DUE.comes(x, 1);
        DUE.is("an hour less, of those with fewest the first begun", x.clock(0), 1000);
        DUE.is("the one begun later", x.clock(1), 3000);
        DUE.is("the longest", x.clock(2), 2002);
        DUE.comes(x, 8);
        DUE.is("clock 1 came", x.name(0), 1);
        DUE.is("0 at least", x.clock(0), 3000);
        DUE.is("an hour less again", x.clock(1), 2001);
        DUE.comes(x, 8);
        DUE.is("clock 3 came", x.name(0), 13);
        DUE.is("what it began has all its hours", x.clock(1), 4);
        DUE.is("the other at 0", x.clock(0), 2000);
        DUE.is("begot by the second", x.happening(3, 1), 1);
        DUE.comes(x, 8);
        DUE.is("begot by the first", x.happening(4, 1), 0);
        DUE.is("clock 2 came", x.name(0), 132);
        DUE.comes(x, 8);
        DUE.is("begot by a clock", x.happening(5, 1), 3);
        DUE.is("no clock writes", x.happening(5, 3), 0);
        DUE.is("all came", x.clock(-1), 0);
    }

    /** The one that comes is told ahead of the hour that all lose. */
    private static void theOneToldAhead() {
        ClickOrders x = DUE.of("on start{clock 0 1;clock 1 0;}on clock 0{a=1;}on clock 1{a=2;}");
        DUE.comes(x, 8);
        DUE.is("the one with 0 hours came", x.name(0), 2);
        DUE.is("begot by the start", x.happening(0, 1), -1);
    }

    private static void failures() {
        ClickOrders x = DUE.of("on press 0{a=1;fail;a=2;}on press 1{ask 0 1;b=b+1;}on press 2{clock 0 9;c=c+1;}");
        DUE.comes(x, 1, 1, 1);
        DUE.is("not failed", x.failed(), false);
        DUE.comes(x, 1);
        DUE.is("a fourth ask fails", x.failed(), true);
        DUE.is("it ends there", x.name(1), 3);
        DUE.is("three are to come", x.line(0, -1), 3);
        DUE.is("spoilt, as it failed", x.spoilt(), true);
        x.begin();
        DUE.is("begun, not failed", x.failed(), false);
        DUE.comes(x, 2, 2, 2);
        DUE.is("three clocks are well", x.failed(), false);
        DUE.comes(x, 2);
        DUE.is("a fourth clock fails", x.failed(), true);
        DUE.is("it ends there, too", x.name(2), 3);
        x.begin();
        DUE.comes(x, 0);
        DUE.is("a fail fails", x.failed(), true);
        DUE.is("what it did stays", x.name(0), 1);
        DUE.comes(x, 1);
        DUE.is("things go on behind a failure", x.name(1), 1);
        DUE.is("it stays failed", x.failed(), true);
    }

    private static void spoiling() {
        ClickOrders x = DUE.of("on press 0{a=1;ask 0 1;}on press 1{clock 0 0;}on press 2{a=1;}harm a=0;harm a=1;");
        DUE.is("the last harm counts", x.spoilt(), false);
        DUE.comes(x, 0);
        DUE.is("an answer is to come", x.spoilt(), false);
        DUE.comes(x, 1, 9);
        DUE.is("a clock is to come", x.spoilt(), false);
        DUE.comes(x, 8);
        DUE.is("nothing is to come", x.spoilt(), true);
        ClickOrders got = DUE.of("on press 0{ask 0 5;}on answer 0{a=got;}harm got=5;");
        DUE.comes(got, 0, 9);
        DUE.is("got is 0 for harm", got.spoilt(), false);
        DUE.is("got is 0 for harm and place in rows", DUE.of("on press 0{ask 0 5;}harm got=5;place got=0;").worst(3, 600), -1);
        DUE.is("but not failed", x.failed(), false);
    }

    private static void touching() {
        ClickOrders x = DUE.of("on press 2{a=a;show 2;if b=1 c=d;}on answer 0{e=got;}on start{ask 0 1;}");
        DUE.comes(x, 2, 9, 5);
        DUE.is("code", x.happening(0, 0), 2);
        DUE.is("a press was begot by none", x.happening(0, 1), -1);
        DUE.is("reads in all that was worked", x.happening(0, 2), 1 | 2 | 1 << 10);
        DUE.is("writes also to the same", x.happening(0, 3), 1 | 1 << 10);
        DUE.is("code of an answer", x.happening(1, 0), 9);
        DUE.is("begot by the start", x.happening(1, 1), -1);
        DUE.is("an answer reads no thing", x.happening(1, 2), 0);
        DUE.is("an answer writes its line", x.happening(1, 3), 16 | 1 << 20);
        DUE.is("a press without a handler", x.happening(2, 2), 1 << 13);
        DUE.is("writes nothing", x.happening(2, 3), 0);
        DUE.throwing("happening(3, 0)", NoSuchElementException.class, () -> x.happening(3, 0));
        DUE.throwing("happening(-1, 0)", NoSuchElementException.class, () -> x.happening(-1, 0));
        DUE.throwing("happening(0, 4)", IllegalArgumentException.class, () -> x.happening(0, 4));
        DUE.throwing("happening(0, -1)", IllegalArgumentException.class, () -> x.happening(0, -1));
        DUE.throwing("happening(3, 4)", NoSuchElementException.class, () -> x.happening(3, 4));
    }

    /** An ask with three answers to come brings none, so that it writes nothing; what was done ahead of it is written. */
    private static void askingFullLines() {
        int line = 1 << 21;
        ClickOrders x = DUE.of("on press 0{a=b;ask 1 5;c=1;}on press 1{ask 1 6;ask 1 7;ask 1 8;}on press 2{stop 1;}"
                + "on press 3{ask 1 9;}on press 4{if a=0 ask 1 9;}on answer 1{ask 1 1;ask 1 2;}");
        DUE.comes(x, 0, 0, 0);
        DUE.is("an ask that is done writes its line", x.happening(2, 3), 1 | 4 | line);
        DUE.comes(x, 0, 3, 4);
        DUE.is("what it did ahead of the ask is written, its line not", x.happening(3, 3), 1);
        DUE.is("what it read stays read", x.happening(3, 2) & (2 | 1 << 8), 2 | 1 << 8);
        DUE.is("an ask alone that fails writes nothing", x.happening(4, 3), 0);
        DUE.is("nor one behind an if", x.happening(5, 3), 0);
        DUE.is("three are to come as ahead of it", x.line(1, -1), 3);
        DUE.comes(x, 10);
        DUE.is("an answer writes its line, also if its handler fails", x.happening(6, 3), line);
        DUE.comes(x, 2, 2, 1, 1);
        DUE.is("a stop writes its line", x.happening(7, 3), line);
        DUE.is("a stop of none, too", x.happening(8, 3), line);
        DUE.is("three asks that are done", x.happening(9, 3), line);
        DUE.is("three asks, of which the first fails", x.happening(10, 3), 0);
        DUE.comes(x, 2, 0, 1);
        DUE.is("asks of which the third fails: the others write", x.happening(13, 3), line);
        x.form(2, 0, 1, 0);
        x.use(0, true);
        DUE.comes(x, 0);
        DUE.is("with form 2 the ask is done", x.happening(14, 3), 1 | 4 | line);
        DUE.is("with form 2 one is to come", x.line(1, -1), 1);
    }

    private static void begetting() {
        ClickOrders x = DUE.of("on press 0{ask 0 1;}on answer 0{ask 1 2;clock 2 3;}");
        DUE.comes(x, 0, 0, 9, 9, 10, 8, 8, 10);
        int[] due = {-1, -1, 0, 1, 2, 2, 3, 3};
        for (int k = 0; k < due.length; k++) {
            DUE.is("happening(" + k + ", 1)", x.happening(k, 1), due[k]);
        }
    }

    private static void forty() {
        ClickOrders x = DUE.of("on press 0{a=a+1;}on press 1{hide 1;}");
        for (int k = 0; k < 40; k++) {
            DUE.is("come number " + k, x.come(k == 0 ? 1 : 0), k);
        }
        DUE.is("there are 40", x.come(0), -2);
        DUE.is("it can not come, which is first", x.come(1), -1);
        DUE.is("can(0) all the same", x.can(0), true);
        DUE.is("no more came", x.name(0), 39);
        DUE.is("begin() tells how many", x.begin(), 40);
        DUE.is("begin() again", x.begin(), 0);
        DUE.is("come anew", x.come(0), 0);
        DUE.is("count(2)", x.count(2), 1);
    }

    public static void main(String[] args) {
        values();
        conditions();
        bothSidesAreWorked();
        things();
        codes();
        lines();
        farRows();
        clocks();
        theOneToldAhead();
        failures();
        spoiling();
        touching();
        askingFullLines();
        begetting();
        forty();
        DUE.ends();
    }
}
