/** Promises 26 to 30: the told row, records played, rows cut down. */
public final class ToldTest {
    private static final Due DUE = new Due();

    private static void tells(ClickOrders x, int... codes) {
        x.clear();
        for (int k = 0; k < codes.length; k++) {
            DUE.is("tell(" + codes[k] + ")", x.tell(codes[k]), k + 1);
        }
    }

    private static void row(ClickOrders x, int... due) {
        DUE.is("count(6)", x.count(6), due.length);
        for (int k = 0; k < due.length; k++) {
            DUE.is("told(" + k + ")", x.told(k), due[k]);
        }
        DUE.is("told behind the last", x.told(due.length), -1);
        DUE.is("told(-1)", x.told(-1), -1);
    }

    private static void telling() {
        ClickOrders x = new ClickOrders();
        row(x);
        DUE.throwing("tell(13)", IllegalArgumentException.class, () -> x.tell(13));
        DUE.throwing("tell(-1)", IllegalArgumentException.class, () -> x.tell(-1));
        DUE.is("clear() of nothing", x.clear(), 0);
        for (int k = 0; k < 40; k++) {
            DUE.is("tell number " + k, x.tell(k % 13), k + 1);
        }
        DUE.is("it has 40", x.tell(0), -1);
        DUE.throwing("tell(13) with 40", IllegalArgumentException.class, () -> x.tell(13));
        DUE.is("the last told", x.told(39), 0);
        DUE.is("told(40)", x.told(40), -1);
        Due.reads(x, "on press 1{}");
        DUE.is("a program leaves the row", x.count(6), 40);
        DUE.is("clear()", x.clear(), 40);
        row(x);
    }

    private static void records() {
        ClickOrders x = DUE.of("on press 0{ask 0 1;hide 0;}on answer 0{clock 1 2;}");
        DUE.is("an empty record", x.record(), -1);
        tells(x, 0, 9, 8, 7);
        DUE.is("all come", x.record(), -1);
        tells(x, 0, 9, 9, 8);
        DUE.is("the third can not", x.record(), 2);
        tells(x, 0, 0);
        DUE.is("the second can not", x.record(), 1);
        tells(x, 8);
        DUE.is("the first can not", x.record(), 0);
        DUE.comes(x, 0, 9);
        DUE.is("from a begun page on, beside the run", x.record(), 0);
        DUE.is("the run is as it was", x.count(2), 2);
        tells(x, 0, 9);
        DUE.is("though the run could not press again", x.record(), -1);
        x.form(0, 3, 0, 0);
        tells(x, 0, 3);
        DUE.is("without the form", x.record(), -1);
        x.use(0, true);
        DUE.is("with the form", x.record(), 1);
    }

    private static void cutting() {
        ClickOrders x = DUE.of("on press 0{a=a+1;}on press 1{b=1;}on press 2{a=0;}harm a>1 and b=1;");
        tells(x, 0, 3, 1, 0, 9, 0, 4);
        DUE.is("cut", x.cut(), 3);
        row(x, 1, 0, 0);
        DUE.is("cut again", x.cut(), 3);
        tells(x, 0, 0, 1, 2);
        DUE.is("it does not spoil at its end", x.cut(), -1);
        row(x, 0, 0, 1, 2);
        x.clear();
        DUE.is("an empty one does not spoil", x.cut(), -1);
    }

    /** Behind the last one again from the first on: what could not go ahead may go then. */
    private static void againFromTheFirst() {
        ClickOrders x = DUE.of("on press 0{a=1;}on press 1{b=1;}on press 2{c=1;}harm c=1 and not[a=0 and b=1];");
        tells(x, 0, 1, 2);
        DUE.is("0 goes only behind 1", x.cut(), 1);
        row(x, 2);
        ClickOrders y = DUE.of("on press 0{a=a+1;}on press 1{a=a+1;}harm a=2 or a=4;");
        tells(y, 0, 0, 0, 0);
        DUE.is("none can be taken out alone", y.cut(), 4);
        ClickOrders z = DUE.of("on press 0{a=1;}on press 1{if a=1 b=1;}on press 2{b=1;}on press 3{if b=0 c=1;}harm b=1 and c=0;");
        tells(z, 0, 1, 2, 3);
        DUE.is("one is enough", z.cut(), 1);
        row(z, 2);
        DUE.is("an empty row that spoils", DUE.of("harm a=0;").cut(), 0);
        ClickOrders empty = DUE.of("on press 0{a=2;}harm a<3;");
        tells(empty, 0, 1, 0);
        DUE.is("nothing is left", empty.cut(), 0);
        row(empty);
    }

    private static void failuresCut() {
        ClickOrders x = DUE.of("on press 0{ask 0 1;}on press 1{stop 0;}on press 2{fail;}");
        tells(x, 1, 0, 0, 3, 0, 0, 1);
        DUE.is("a failure stays, four asks", x.cut(), 4);
        row(x, 0, 0, 0, 0);
        tells(x, 0, 0, 0, 0, 2);
        DUE.is("from the first on", x.cut(), 1);
        row(x, 2);
    }

    public static void main(String[] args) {
        telling();
        records();
        cutting();
        againFromTheFirst();
        failuresCut();
        DUE.ends();
    }
}
