/** Promises 31 to 33 at their edges: six forms and no seventh, what each sort does just there, sets that are just safe or just cheaper. */
public final class FormEdgesTest {
    private static final Due DUE = new Due();
    private static final int[] FAR_OUT = {Integer.MIN_VALUE, -2, -1, 101, 102, Integer.MAX_VALUE};

    private static void wrong(ClickOrders x, int sort, int thing, int line, int price) {
        DUE.throwing("31: form(" + sort + ", " + thing + ", " + line + ", " + price + ")", IllegalArgumentException.class,
            () -> x.form(sort, thing, line, price));
    }

    /** 31: each argument's first and last; a wrong one makes no form and leaves all as it was, with six forms, too. */
    private static void wrongForms() {
        ClickOrders none = DUE.of("on start{ask 0 1;}on press 0{a=1;}");
        DUE.comes(none, 0);
        String of = Due.all(none);
        allWrong(none);
        DUE.same("31: wrong forms", Due.all(none), of);
        ClickOrders x = DUE.of("on start{ask 0 1;}on press 0{a=1;}");
        int[][] well = {{0, 0, 0, 0}, {0, 7, 3, 100}, {1, -1, 0, 1}, {2, 8, 3, 99}, {1, Integer.MIN_VALUE, 3, 0}, {2, Integer.MAX_VALUE, 0, 100}};
        for (int k = 0; k < 6; k++) {
            DUE.is("31: form " + k, x.form(well[k][0], well[k][1], well[k][2], well[k][3]), k);
            DUE.is("39: count(5)", x.count(5), k + 1);
        }
        String ahead = Due.all(x);
        DUE.is("31: there are 6", x.form(0, 0, 0, 0), -1);
        DUE.is("31: there are 6 still", x.form(2, 0, 3, 100), -1);
        DUE.same("31: a seventh", Due.all(x), ahead);
        allWrong(x);
        DUE.same("31: wrong ones, as there are 6", Due.all(x), ahead);
        Due.reads(x, "on press 0{}");
        DUE.is("31: with another program there are 6", x.form(0, 0, 0, 0), -1);
    }

    private static void allWrong(ClickOrders x) {
        for (int k : FAR_OUT) {
            wrong(x, k, 0, 0, 0);
            wrong(x, 0, k, 0, 0);
            wrong(x, 0, 0, k, 0);
            wrong(x, 1, 0, k, 0);
            wrong(x, 2, 0, k, 0);
            wrong(x, 1, 0, 0, k);
        }
        wrong(x, 3, 0, 0, 0);
        wrong(x, 0, 8, 0, 0);
        wrong(x, 0, 0, 4, 0);
        wrong(x, 1, 0, 4, 0);
        wrong(x, 2, 0, 4, 0);
        wrong(x, 3, 8, 4, 101);
    }

    /** 32: whether it was on; no such form. */
    private static void using() {
        ClickOrders x = DUE.of("on start{ask 3 1;}");
        for (int form : new int[] {-1, 0, 1, 6, Integer.MIN_VALUE, Integer.MAX_VALUE}) {
            DUE.throwing("32: use(" + form + ") of none", IndexOutOfBoundsException.class, () -> x.use(form, true));
        }
        for (int k = 0; k < 6; k++) {
            DUE.is("31: form " + k, x.form(0, k, 3, 1), k);
            int next = k + 1;
            DUE.throwing("32: use(" + next + ")", IndexOutOfBoundsException.class, () -> x.use(next, true));
            DUE.is("32: off at first", x.can(k), true);
            DUE.is("32: it was off", x.use(k, false), false);
            DUE.is("32: it is off still", x.can(k), true);
            DUE.is("32: it was off, too", x.use(k, true), false);
            DUE.is("32: it is on", x.can(k), false);
            DUE.is("32: it was on", x.use(k, true), true);
            DUE.is("32: it is on still", x.can(k), false);
        }
        String ahead = Due.all(x);
        for (int form : new int[] {-1, 6, 7, 32, Integer.MIN_VALUE, Integer.MAX_VALUE}) {
            DUE.throwing("32: use(" + form + ", false)", IndexOutOfBoundsException.class, () -> x.use(form, false));
            DUE.throwing("32: use(" + form + ", true)", IndexOutOfBoundsException.class, () -> x.use(form, true));
        }
        DUE.same("32: no such ones", Due.all(x), ahead);
        DUE.is("32: one off", x.use(5, false), true);
        DUE.is("32: its thing can come", x.can(5), true);
        DUE.is("32: the others' can't", x.can(0) || x.can(4), false);
        DUE.is("31: a seventh leaves them on", x.form(0, 5, 3, 0), -1);
        DUE.is("32: on again", x.use(5, true), false);
    }

    /** Sort 0: just while answers are to come on just that line, for just that thing. */
    private static void barred() {
        for (int line = 0; line < 4; line++) {
            for (int thing = 0; thing < 8; thing++) {
                int other = (line + 1) % 4;
                ClickOrders x = DUE.of("on start{ask " + other + " 1;ask " + line + " 1;ask " + line + " 2;clock 0 1;}");
                x.form(0, thing, line, 0);
                x.use(0, true);
                for (int k = 0; k < 8; k++) {
                    DUE.is("6: can(" + k + "), barred is " + thing, x.can(k), k != thing);
                }
                DUE.is("7: come(" + thing + ")", x.come(thing), -1);
                DUE.comes(x, 9 + line);
                DUE.is("6: one more is to come", x.can(thing), false);
                DUE.is("35: nor in a window", x.comes(0, thing), -1);
                DUE.comes(x, 9 + line);
                DUE.is("6: none is to come there", x.can(thing), true);
                DUE.is("7: though one is elsewhere", x.come(thing), 2);
            }
        }
        ClickOrders hidden = DUE.of("on start{hide 3;grey 4;}");
        hidden.form(0, 3, 0, 0);
        hidden.form(0, 4, 0, 0);
        hidden.use(0, true);
        hidden.use(1, true);
        DUE.is("6: a hidden thing can't with it either", hidden.can(3), false);
        DUE.is("6: nor a grey one", hidden.can(4), false);
    }

    /** Sort 1: the first of two or three is not heard, the last one is; on that line alone. */
    private static void unheard() {
        for (int line = 0; line < 4; line++) {
            int other = (line + 1) % 4;
            String text = "on start{ask " + line + " 1;ask " + line + " 2;ask " + line + " 3;ask " + other + " 4;ask " + other + " 5;}on answer "
                + line + "{a=a*10+got;if b=1 b=1;}on answer " + other + "{c=c*10+got;}";
            ClickOrders x = DUE.of(text);
            x.form(1, 0, line, 0);
            DUE.is("32: use", x.use(0, true), false);
            DUE.is("7: the first comes", x.come(9 + line), 0);
            DUE.is("11: it is taken away", x.line(line, 0), 2);
            DUE.is("15: it is an answer", x.happening(0, 0), 9 + line);
            DUE.is("15: it read nothing", x.happening(0, 2), 0);
            DUE.is("15: it wrote its line", x.happening(0, 3), 1 << 20 + line);
            DUE.is("15: begot by the start", x.happening(0, 1), -1);
            DUE.comes(x, 9 + line);
            DUE.is("8: two were not heard", x.name(0), 0);
            DUE.comes(x, 9 + line);
            DUE.is("8: the last one was", x.name(0), 3);
            DUE.is("15: it read", x.happening(2, 2), 3);
            DUE.comes(x, 9 + other, 9 + other);
            DUE.is("8: the others were", x.name(2), 45);
            x.begin();
            x.use(0, false);
            DUE.comes(x, 9 + line);
            x.use(0, true);
            DUE.comes(x, 9 + line);
            x.use(0, false);
            DUE.comes(x, 9 + line);
            DUE.is("32: the run goes on with what is on", x.name(0), 13);
        }
        ClickOrders clocks = DUE.of("on start{ask 0 1;ask 0 2;clock 0 5;}on answer 0{a=got;}");
        clocks.form(1, 0, 0, 0);
        clocks.use(0, true);
        DUE.comes(clocks, 9);
        DUE.is("an hour goes by all the same", clocks.clock(0), 4);
        ClickOrders asking = DUE.of("on press 0{ask 0 1;}on answer 0{a=a+1;ask 0 2;}");
        asking.form(1, 0, 0, 0);
        asking.use(0, true);
        DUE.comes(asking, 0, 9, 9);
        DUE.is("what its own handler asks is not behind it yet", asking.name(0), 2);
    }

    /** Sort 2: what is to come is taken away ahead of the ask, be it one or three; so it never fails there. */
    private static void fresh() {
        for (int line = 0; line < 4; line++) {
            int other = (line + 1) % 4;
            ClickOrders x = DUE.of("on start{ask " + line + " 1;ask " + line + " 2;ask " + line + " 3;ask " + other + " 1;ask " + other
                + " 2;ask " + other + " 3;}on press 0{ask " + line + " 4;}on press 1{ask " + other + " 4;}on press 2{stop " + line + ";}");
            DUE.is("11: three", x.line(line, -1), 3);
            x.form(2, 0, line, 0);
            x.use(0, true);
            DUE.comes(x, 0);
            DUE.is("11: one", x.line(line, -1), 1);
            DUE.is("11: the new one", x.line(line, 0), 4);
            DUE.is("13: it is well", x.failed(), false);
            DUE.is("15: it wrote its line", x.happening(0, 3), 1 << 20 + line);
            DUE.comes(x, 0, 2, 0);
            DUE.is("11: one of none", x.line(line, -1), 1);
            DUE.is("11: the other line's stay", x.line(other, -1), 3);
            DUE.comes(x, 9 + line);
            DUE.is("15: begot by the latest ask", x.happening(4, 1), 3);
            DUE.comes(x, 1);
            DUE.is("13: the other line is full", x.failed(), true);
            x.begin();
            DUE.is("5: with it the start's are one", x.line(line, -1), 1);
            DUE.is("5: the last", x.line(line, 0), 3);
            x.use(0, false);
            DUE.is("11: off, it stays so", x.line(line, -1), 1);
            DUE.comes(x, 0, 0);
            DUE.is("13: three are well", x.failed(), false);
            DUE.comes(x, 0);
            DUE.is("13: off, a fourth is not", x.failed(), true);
        }
    }

    /** Two forms of one sort work each by itself; one that is taken off leaves the other. */
    private static void twins() {
        ClickOrders x = DUE.of("on start{ask 1 1;}on press 0{ask 1 2;}");
        x.form(2, 0, 1, 0);
        x.form(2, 0, 1, 0);
        x.use(0, true);
        x.use(1, true);
        x.use(0, false);
        DUE.comes(x, 0);
        DUE.is("11: the other one is on", x.line(1, -1), 1);
        x.use(1, false);
        DUE.comes(x, 0);
        DUE.is("11: none is on", x.line(1, -1), 2);
    }

    private static void cheapest(String told, ClickOrders x, int n, int m, int pages, int set, int price) {
        DUE.is("33: " + told + ": the set", x.cheapest(n, m, pages, 0), set);
        DUE.is("33: " + told + ": its price", x.cheapest(n, m, pages, 1), price);
    }

    /** 33: all six are needed, at the greatest price; without one of them none is safe; by one happening less none is needed. */
    private static void allSix() {
        StringBuilder text = new StringBuilder("on start{ask 2 1;}on answer 2{");
        for (int k = 0; k < 6; k++) {
            text.append("hide ").append(k).append(';');
        }
        text.append('}');
        for (int k = 0; k < 6; k++) {
            text.append("on press ").append(k).append("{fail;}");
        }
        ClickOrders x = DUE.of(text.toString());
        cheapest("without forms", x, 1, 0, 600, -1, -1);
        cheapest("by none", x, 0, 0, 1, 0, 0);
        for (int k = 0; k < 6; k++) {
            cheapest("with " + k, x, 1, 0, 600, -1, -1);
            x.form(0, k, 2, 100);
        }
        cheapest("with all", x, 1, 0, 600, 63, 600);
        cheapest("by none with all", x, 0, 0, 1, 0, 0);
        cheapest("two pages", x, 8, 3, 2, 63, 600);
        cheapest("one page", x, 8, 3, 1, -1, -1);
        DUE.is("33: which are on is no matter", x.use(3, true), false);
        cheapest("with one on", x, 1, 0, 600, 63, 600);
        DUE.is("33: and stays", x.use(3, false), true);
        DUE.is("33: what was off, too", x.use(2, false), false);
        for (int what : new int[] {-1, 2, Integer.MIN_VALUE, Integer.MAX_VALUE}) {
            DUE.throwing("33: what " + what, IllegalArgumentException.class, () -> x.cheapest(1, 0, 600, what));
        }
        DUE.refused(x, "33: by 9", IllegalArgumentException.class, () -> x.cheapest(9, 0, 600, 0));
        DUE.is("33: the run can press still", x.can(0), true);
    }

    /** Two things on two lines, one line after the other: safe are just {0, 3} and {1, 2}, and what has nothing of it to press. */
    private static void theFirstSet() {
        ClickOrders x = DUE.of("on start{ask 0 1;}on answer 0{h=1;ask 1 1;}on answer 1{h=2;}on press 0{if h=0 a=1;if h=1 b=1;}"
            + "on press 1{if h=0 c=1;if h=1 d=1;}harm a+c=2 or b+d=2 or a+b=2 or c+d=2;");
        x.form(0, 0, 0, 1);
        x.form(0, 0, 1, 1);
        x.form(0, 1, 0, 1);
        x.form(0, 1, 1, 1);
        cheapest("the least form that is in one and not in the other", x, 4, 0, 600, 0b1001, 2);
        cheapest("by less none is needed", x, 3, 0, 600, 0, 0);
        ClickOrders y = DUE.of("on start{ask 0 1;}on answer 0{h=1;ask 1 1;}on answer 1{h=2;}on press 0{if h=0 a=1;if h=1 b=1;}"
            + "on press 1{if h=0 c=1;if h=1 d=1;}harm a+c=2 or b+d=2 or a+b=2 or c+d=2;");
        y.form(0, 0, 0, 2);
        y.form(0, 0, 1, 1);
        y.form(0, 1, 0, 2);
        y.form(0, 1, 1, 2);
        cheapest("the least price first", y, 4, 0, 600, 0b0110, 3);
    }

    /** The price first, then how few, then which. */
    private static void prices() {
        String text = "on start{ask 0 1;ask 1 1;}on answer 0{b=1;}on answer 1{c=1;}on press 0{if b=0 fail;}on press 1{if c=0 fail;}";
        ClickOrders few = DUE.of("on start{ask 0 1;}on answer 0{b=1;}on press 0{if b=0 fail;}");
        few.form(1, 0, 0, 0);
        few.form(0, 0, 0, 100);
        few.form(0, 0, 0, 99);
        few.form(0, 0, 0, 99);
        cheapest("of four one", few, 1, 0, 600, 0b0100, 99);
        ClickOrders none = DUE.of(text);
        none.form(0, 0, 0, 0);
        none.form(0, 1, 1, 0);
        cheapest("for nothing, but not none", none, 1, 0, 600, 0b11, 0);
        ClickOrders more = DUE.of(text);
        more.form(0, 0, 0, 50);
        more.form(0, 1, 1, 50);
        more.form(0, 0, 0, 49);
        cheapest("two, one of them cheaper", more, 1, 0, 600, 0b110, 99);
        ClickOrders idle = DUE.of("on press 0{a=1;}");
        for (int k = 0; k < 6; k++) {
            idle.form(k % 3, 0, 0, 0);
        }
        cheapest("none is needed, though all are free", idle, 8, 3, 600, 0, 0);
    }

    /** Two at 1 each do what one of another sort does, which is dearer, just as dear, or cheaper. */
    private static void priceOrFew() {
        for (int price = 0; price <= 4; price++) {
            ClickOrders x = DUE.of("on start{ask 0 1;ask 0 2;}on answer 0{a=got;}on press 0{if a=1 fail;}on press 1{if a=1 fail;}");
            x.form(0, 0, 0, 1);
            x.form(0, 1, 0, 1);
            x.form(1, 0, 0, price);
            cheapest("with another at " + price, x, 3, 0, 600, price > 2 ? 0b011 : 0b100, Math.min(price, 2));
        }
    }

    /** One form is needed, of each sort on each line; the others are for nothing, come first, and don't help. */
    private static void theOneNeeded() {
        for (int sort = 0; sort < 3; sort++) {
            for (int line = 0; line < 4; line++) {
                for (int mix = 0; mix < 8; mix++) {
                    String asks = "ask " + (line + 1) % 4 + " 1;ask " + (line + 2) % 4 + " 1;ask " + (line + 3) % 4 + " 1;";
                    String own = "ask " + line + " 1;";
                    String text = switch (sort) {
                        case 0 -> "on start{" + asks + own + "}on answer " + line + "{b=1;}on press " + mix + "{if b=0 fail;}";
                        case 1 -> "on start{" + asks + own + "ask " + line + " 2;}on answer " + line + "{if got=1 fail;}";
                        default -> "on start{" + asks + own.repeat(4) + "}";
                    };
                    ClickOrders x = DUE.of(text);
                    for (int k = 0; k < 5; k++) {
                        int other = (k * 2 + mix) % 3;
                        int at = (line + 1 + (k + mix) % 3) % 4;
                        DUE.is("31: form", x.form(other, (mix + k + 1) % 8, at, 0), k);
                    }
                    x.form(sort, mix, line, 1);
                    cheapest("sort " + sort + " on line " + line + ", mix " + mix, x, 1, 0, 600, 0b100000, 1);
                }
            }
        }
    }

    /** Safe is neither spent nor spoilt nor stuck: each of the three for itself, at its edge. */
    private static void safe() {
        ClickOrders pages = DUE.of("on press 0{ask 0 1;}on press 1{a=a+1;}");
        pages.form(0, 1, 0, 1);
        cheapest("just enough pages", pages, 1, 0, 3, 0, 0);
        cheapest("one too few", pages, 1, 0, 2, -1, -1);
        ClickOrders form = DUE.of("on start{ask 0 1;}on answer 0{hide 1;}on press 1{a=a+1;}");
        form.form(0, 1, 0, 1);
        cheapest("fewer pages with a form", form, 3, 0, 2, 1, 1);
        cheapest("enough without", form, 1, 0, 3, 0, 0);
        ClickOrders end = DUE.of("on press 0{fail;}on press 1{a=1;}");
        cheapest("spoilt at the end of a row", end, 1, 0, 600, -1, -1);
        cheapest("not ahead of that", end, 0, 0, 600, 0, 0);
        ClickOrders begun = DUE.of("on start{ask 0 1;ask 0 2;ask 0 3;ask 0 4;}");
        begun.form(2, 0, 0, 7);
        cheapest("spoilt at the beginning", begun, 0, 0, 1, 1, 7);
        ClickOrders stuck = DUE.of("on press 0{a=a+1;}place a=3;");
        cheapest("stuck by 2", stuck, 0, 2, 600, -1, -1);
        cheapest("not by 3", stuck, 0, 3, 600, 0, 0);
        cheapest("behind it", stuck, 3, 3, 600, 0, 0);
        cheapest("and further", stuck, 4, 3, 600, -1, -1);
        ClickOrders bars = DUE.of("on start{ask 0 1;}on answer 0{ask 0 1;}on press 1{fail;}on press 2{b=1;}place b=1;");
        bars.form(0, 1, 0, 1);
        bars.form(0, 2, 0, 0);
        cheapest("a form that leaves it stuck", bars, 3, 1, 600, 1, 1);
        cheapest("with none more all are stuck", bars, 3, 0, 600, -1, -1);
    }

    /** What was answered ahead is of the program, forms and numbers of then. */
    private static void again() {
        ClickOrders x = DUE.of("on start{ask 0 1;}on answer 0{b=1;}on press 0{if b=0 fail;}");
        cheapest("without forms", x, 1, 0, 600, -1, -1);
        x.form(0, 0, 0, 9);
        cheapest("with one", x, 1, 0, 600, 1, 9);
        x.form(0, 0, 0, 8);
        cheapest("with a cheaper one", x, 1, 0, 600, 2, 8);
        cheapest("by none", x, 0, 0, 600, 0, 0);
        cheapest("by one with one page", x, 1, 0, 1, -1, -1);
        cheapest("by one again", x, 1, 0, 600, 2, 8);
        Due.reads(x, "on start{ask 0 1;}on answer 0{b=1;}on press 0{if b=0 fail;}place b=1;");
        cheapest("with a place, by one more", x, 1, 1, 600, 2, 8);
        cheapest("by none more", x, 1, 0, 600, -1, -1);
        Due.reads(x, "on press 0{a=1;}x");
        cheapest("a fault", x, 1, 1, 600, 2, 8);
        Due.reads(x, "on press 0{a=1;}");
        cheapest("another program", x, 1, 0, 600, 0, 0);
        DUE.is("22: worst behind that", x.worst(8, 600), -1);
    }

    public static void main(String[] args) {
        wrongForms();
        using();
        barred();
        unheard();
        fresh();
        twins();
        allSix();
        theFirstSet();
        prices();
        priceOrFew();
        theOneNeeded();
        safe();
        again();
        DUE.ends();
    }
}
