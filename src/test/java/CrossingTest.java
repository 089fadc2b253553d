import java.util.NoSuchElementException;

/** Promises 16 to 21: what is ordered, what crosses, and what a turn makes of it. */
public final class CrossingTest {
    private static final Due DUE = new Due();

    private static void order() {
        ClickOrders x = DUE.of("on press 0{ask 0 1;clock 0 9;}on press 1{ask 0 2;ask 1 3;}on answer 1{grey 3;hide 3;}"
            + "on clock 0{live 3;}on press 4{show 3;}");
        // 0:press0 1:press1 2:answer1 3:clock0 4:press4 5:press3 6:answer0 7:answer0 8:press 3 again
        DUE.comes(x, 0, 1, 10, 8, 4, 3, 9, 9, 3);
        String[] ahead = {"", "", "1", "0", "", "4", "0", "016", "4"};
        for (int j = 0; j < 9; j++) {
            for (int i = 0; i < 9; i++) {
                DUE.is("ordered(" + i + ", " + j + ")", x.ordered(i, j), ahead[j].indexOf('0' + i) >= 0);
            }
        }
        DUE.throwing("ordered(9, 0)", NoSuchElementException.class, () -> x.ordered(9, 0));
        DUE.throwing("ordered(0, -1)", NoSuchElementException.class, () -> x.ordered(0, -1));
    }

    /** A press is ordered behind the latest one that made its thing free, and by chains. */
    private static void freeing() {
        ClickOrders x = DUE.of("on press 0{hide 1;}on press 2{show 1;}on press 3{show 1;}");
        DUE.comes(x, 0, 2, 3, 1, 0, 3, 2, 1);
        DUE.is("the one that showed it", x.ordered(1, 3), true);
        DUE.is("not one that showed it again", x.ordered(2, 3), false);
        DUE.is("nor one that hid it", x.ordered(0, 3), false);
        DUE.is("the latest", x.ordered(5, 7), true);
        DUE.is("not the one ahead of it", x.ordered(1, 7), false);
        DUE.is("clocks are ordered", clocksAreOrdered(), true);
        ClickOrders first = DUE.of("on start{hide 1;grey 2;}on press 0{show 1;live 2;}");
        DUE.comes(first, 0, 1, 2);
        DUE.is("freed by the first happening", first.ordered(0, 1), true);
        DUE.is("and made live by it", first.ordered(0, 2), true);
    }

    private static boolean clocksAreOrdered() {
        ClickOrders x = DUE.of("on press 0{clock 0 5;}on press 1{clock 1 5;}");
        DUE.comes(x, 0, 1, 8, 8);
        return x.ordered(2, 3) && x.ordered(0, 3) && !x.ordered(1, 2) && x.ordered(1, 3);
    }

    private static void crossing() {
        ClickOrders x = DUE.of("on press 0{a=1;}on press 1{b=a;}on press 2{c=1;hide 3;}on press 3{c=2;}on press 4{d=far 1;}"
            + "on press 5{save 1 2;}");
        DUE.comes(x, 3, 0, 1, 2, 4, 5, 4);
        // 0:p3 1:p0 2:p1 3:p2 4:p4 5:p5 6:p4
        DUE.is("crossings()", x.crossings(), 5);
        int[] due = {3, 64 + 2, 4 * 64 + 5, 4 * 64 + 6, 5 * 64 + 6, -1};
        for (int k = 0; k < due.length; k++) {
            DUE.is("crossing(" + k + ")", x.crossing(k), due[k]);
        }
        DUE.is("crossing(-1)", x.crossing(-1), -1);
        DUE.is("why: the least item", x.why(0, 3), 2);
        DUE.is("why in the other order", x.why(3, 0), 2);
        DUE.is("why of a name", x.why(1, 2), 0);
        DUE.is("why of a far row", x.why(5, 4), 17);
        DUE.is("why of both writing", x.why(4, 6), 3);
        DUE.is("why of none", x.why(0, 1), -1);
        DUE.is("why of one", x.why(0, 0), -1);
        DUE.is("turn of none", x.turn(0, 1), -1);
        DUE.is("turn of one", x.turn(3, 3), -1);
        DUE.throwing("why(7, 0)", NoSuchElementException.class, () -> x.why(7, 0));
        DUE.throwing("why(0, 7)", NoSuchElementException.class, () -> x.why(0, 7));
        DUE.throwing("turn(-1, 0)", NoSuchElementException.class, () -> x.turn(-1, 0));
        DUE.throwing("turn(0, 7)", NoSuchElementException.class, () -> x.turn(0, 7));
    }

    private static void turns() {
        ClickOrders left = DUE.of("on press 0{hide 1;}on press 1{a=1;}");
        DUE.comes(left, 1, 0);
        DUE.is("the press comes behind its hiding: lasting", left.turn(0, 1), 3);

        ClickOrders out = DUE.of("on press 0{ask 0 1;}on press 1{stop 0;ask 0 2;}on answer 0{a=got;}");
        DUE.comes(out, 0, 1, 9);
        DUE.is("press and press over a line", out.why(0, 1), 20);
        DUE.is("0 was asked behind the stop: lasting", out.turn(0, 1), 3);
        DUE.is("the answer comes of the first ask, which j had stopped", out.turn(0, 2), 3);

        ClickOrders same = DUE.of("on press 0{a=a+1;}on press 1{a=a+1;}");
        DUE.comes(same, 0, 1);
        DUE.is("the same", same.turn(0, 1), 1);

        ClickOrders moment = DUE.of("on press 0{a=a+1;}on press 1{a=a+2;}");
        DUE.comes(moment, 0, 1);
        DUE.is("for a moment otherwise", moment.turn(1, 0), 2);

        ClickOrders begun = DUE.of("on start{a=1;}on press 0{a=0-a;}on press 1{a=a*1;}on press 2{a=a*(0-1);}");
        DUE.comes(begun, 0, 1, 2);
        DUE.is("as at the beginning", begun.turn(0, 1), 1);

        ClickOrders lasting = DUE.of("on press 0{a=1;}on press 1{a=2;}");
        DUE.comes(lasting, 0, 1);
        DUE.is("lasting", lasting.turn(0, 1), 3);

        ClickOrders failing = DUE.of("on press 0{if a=1 fail;}on press 1{a=1;}");
        DUE.comes(failing, 0, 1);
        DUE.is("a failure", failing.turn(0, 1), 4);
        failing.begin();
        DUE.comes(failing, 1, 0);
        DUE.is("the run failed, the turn not: lasting", failing.turn(0, 1), 3);
        failing.begin();
        DUE.comes(failing, 0, 1, 0);
        DUE.is("both failed", failing.turn(0, 1), 1);
    }

    /** Lines, far rows and clocks count for lasting, though they are no names and things. */
    private static void lastingElsewhere() {
        ClickOrders rows = DUE.of("on press 0{save 0 1;}on press 1{save 0 2;}");
        DUE.comes(rows, 0, 1);
        DUE.is("a far row", rows.turn(0, 1), 3);
        ClickOrders lines = DUE.of("on press 0{ask 2 1;}on press 1{ask 2 2;}");
        DUE.comes(lines, 0, 1);
        DUE.is("a line", lines.turn(0, 1), 3);
        ClickOrders hours = DUE.of("on press 0{a=1;clock 0 5;}on press 1{a=1;}");
        DUE.comes(hours, 0, 1);
        DUE.is("a clock's hours", hours.turn(0, 1), 3);
    }

    /** What is ordered ahead of j comes ahead of it, the others between behind i. */
    private static void between() {
        ClickOrders x = DUE.of("on press 0{a=a*2+1;}on press 1{ask 0 3;}on press 2{b=a;}on answer 0{a=a*got;}");
        DUE.comes(x, 0, 2, 1, 9);
        // turned 0 and 3: press1, answer (a=0), press0 (a=1), press2 (b=1); in the run a=3, b=1
        DUE.is("turn over those between", x.turn(0, 3), 3);
        ClickOrders y = DUE.of("on press 0{a=1;}on press 1{ask 0 1;}on press 2{if a=0 c=5;}on answer 0{a=got;}");
        DUE.comes(y, 0, 2, 1, 9);
        DUE.is("press 2 comes behind i, so that c stays", y.turn(0, 3), 1);
        ClickOrders z = DUE.of("on press 0{a=1;}on press 1{b=a;}on press 2{if b=1 fail;}");
        DUE.comes(z, 1, 0, 2);
        DUE.is("all behind j come too", z.turn(0, 1), 4);
    }

    private static void leftOut() {
        ClickOrders x = DUE.of("on start{ask 0 1;}on answer 0{a=1;}on press 1{a=2;}on press 2{ask 0 5;}");
        x.form(0, 1, 0, 1);
        DUE.comes(x, 9, 1);
        DUE.is("turned without the form", x.turn(0, 1), 3);
        x.use(0, true);
        DUE.is("j was left out", x.turn(0, 1), 0);
        DUE.is("sorts(0)", x.sorts(0), 1);
        DUE.is("sorts(3)", x.sorts(3), 0);
        x.use(0, false);
        DUE.is("sorts(0) without", x.sorts(0), 0);
        DUE.is("sorts(3) without", x.sorts(3), 1);
    }

    /** An ask that fails for three answers to come writes nothing, and so crosses nobody over its line. */
    private static void askingFullLines() {
        ClickOrders x = DUE.of("on press 0{ask 1 5;}on press 1{b=1;ask 1 6;}on press 2{a=b;}");
        DUE.comes(x, 0, 0, 0, 1, 2, 0);
        int[] due = {1, 2, 64 + 2, 3 * 64 + 4, -1};
        DUE.is("crossings() with asks that fail", x.crossings(), 4);
        for (int k = 0; k < due.length; k++) {
            DUE.is("crossing(" + k + ") with asks that fail", x.crossing(k), due[k]);
        }
        DUE.is("why of an ask and one that failed", x.why(2, 3), -1);
        DUE.is("why of two that failed", x.why(3, 5), -1);
        DUE.is("why of what was done ahead of the ask", x.why(4, 3), 1);
        DUE.is("turn of an ask and one that failed", x.turn(5, 0), -1);
        DUE.is("turn of what was done ahead of the ask", x.turn(3, 4), 3);
        int[] tally = {0, 3, 0, 1, 0};
        for (int k = 0; k < 5; k++) {
            DUE.is("sorts(" + k + ") with asks that fail", x.sorts(k), tally[k]);
        }
        DUE.comes(x, 10);
        DUE.is("the answer was begot by the first ask", x.why(0, 6), -1);
        DUE.is("the answer and another ask", x.why(2, 6), 21);
        DUE.is("the answer and an ask that failed", x.why(5, 6), -1);
        DUE.is("crossings() with the answer", x.crossings(), 6);
    }

    private static void sorts() {
        ClickOrders x = DUE.of("on press 0{a=a+1;}on press 1{a=a+2;}on press 2{b=1;}on press 3{if b=1 fail;}on press 4{b=2;}");
        DUE.comes(x, 0, 0, 1, 3, 2, 4);
        // 0-1 same; 0-2, 1-2 a moment; 3-4 a failure; 3-5 lasting, as press 2 comes last then; 4-5 lasting
        int[] due = {0, 1, 2, 2, 1};
        for (int k = 0; k < 5; k++) {
            DUE.is("sorts(" + k + ")", x.sorts(k), due[k]);
        }
        DUE.throwing("sorts(5)", IllegalArgumentException.class, () -> x.sorts(5));
        DUE.throwing("sorts(-1)", IllegalArgumentException.class, () -> x.sorts(-1));
        x.begin();
        DUE.is("sorts(1) of an empty run", x.sorts(1), 0);
        DUE.is("crossings() of an empty run", x.crossings(), 0);
    }

    private static void manyCrossings() {
        ClickOrders x = DUE.of("on press 0{a=a+1;}");
        for (int k = 0; k < 40; k++) {
            x.come(0);
        }
        DUE.is("crossings of 40", x.crossings(), 780);
        DUE.is("the last of them", x.crossing(779), 38 * 64 + 39);
        DUE.is("behind it", x.crossing(780), -1);
        DUE.is("all are the same turned", x.sorts(1), 780);
    }

    public static void main(String[] args) {
        order();
        freeing();
        crossing();
        turns();
        lastingElsewhere();
        between();
        leftOut();
        askingFullLines();
        sorts();
        manyCrossings();
        DUE.ends();
    }
}
