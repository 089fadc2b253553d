/** Promises 31 to 33: forms, whether they are on, and the cheapest set that is safe. */
public final class FormsTest {
    private static final Due DUE = new Due();

    private static void making() {
        ClickOrders x = new ClickOrders();
        int[][] wrong = {{-1, 0, 0, 0}, {3, 0, 0, 0}, {0, 8, 0, 0}, {0, -1, 0, 0}, {0, 0, 4, 0}, {1, 0, -1, 0}, {2, 0, 4, 0},
            {0, 0, 0, -1}, {0, 0, 0, 101}};
        for (int[] w : wrong) {
            DUE.throwing("a wrong form", IllegalArgumentException.class, () -> x.form(w[0], w[1], w[2], w[3]));
        }
        DUE.is("none was made", x.count(5), 0);
        DUE.is("form 0", x.form(0, 7, 3, 100), 0);
        DUE.is("form 1, whose thing is not asked", x.form(1, 99, 0, 0), 1);
        DUE.is("form 2, whose thing is not asked", x.form(2, -99, 0, 0), 2);
        DUE.throwing("use(3)", IndexOutOfBoundsException.class, () -> x.use(3, true));
        DUE.throwing("use(-1)", IndexOutOfBoundsException.class, () -> x.use(-1, true));
        DUE.is("not on at first", x.use(2, true), false);
        DUE.is("on", x.use(2, true), true);
        DUE.is("on still", x.use(2, false), true);
        DUE.is("off", x.use(2, false), false);
        for (int k = 3; k < 6; k++) {
            DUE.is("form " + k, x.form(0, 0, 0, 0), k);
        }
        DUE.is("there are 6", x.form(0, 0, 0, 0), -1);
        DUE.throwing("a wrong seventh", IllegalArgumentException.class, () -> x.form(0, 8, 0, 0));
        DUE.is("count(5)", x.count(5), 6);
        Due.reads(x, "on press 0{}");
        DUE.is("a program leaves them", x.count(5), 6);
    }

    private static void sortZero() {
        ClickOrders x = DUE.of("on press 0{ask 1 5;}on press 1{a=1;}");
        x.form(0, 1, 1, 1);
        DUE.comes(x, 0);
        DUE.is("off: it can", x.can(1), true);
        x.use(0, true);
        DUE.is("on: it can not", x.can(1), false);
        DUE.is("nor does it come", x.come(1), -1);
        DUE.is("other things can", x.can(0), true);
        DUE.comes(x, 10);
        DUE.is("behind the answer it can", x.can(1), true);
        DUE.is("the run went on", x.count(2), 2);
        ClickOrders two = DUE.of("on press 0{ask 1 5;}on press 2{ask 3 5;}");
        two.form(0, 1, 1, 1);
        two.form(0, 1, 3, 1);
        two.use(0, true);
        two.use(1, true);
        DUE.is("with nothing to come", two.can(1), true);
        DUE.comes(two, 0);
        DUE.is("by the first form", two.can(1), false);
        DUE.comes(two, 10, 2);
        DUE.is("by the second form", two.can(1), false);
        two.use(1, false);
        DUE.is("by the first form alone", two.can(1), true);
    }

    private static void sortOne() {
        ClickOrders x = DUE.of("on press 0{ask 0 5;ask 0 6;ask 1 7;ask 1 8;}on answer 0{a=a+got;}on answer 1{b=b+got;}");
        x.form(1, 0, 0, 1);
        x.use(0, true);
        DUE.comes(x, 0, 9);
        DUE.is("another is to come behind it", x.name(0), 0);
        DUE.is("it was taken away", x.line(0, -1), 1);
        DUE.is("it wrote its line alone", x.happening(1, 3), 1 << 20);
        DUE.is("and read nothing", x.happening(1, 2), 0);
        DUE.comes(x, 9);
        DUE.is("the last one is heard", x.name(0), 6);
        DUE.comes(x, 10);
        DUE.is("other lines are heard", x.name(1), 7);
    }

    private static void sortTwo() {
        ClickOrders x = DUE.of("on press 0{ask 0 a;a=a+1;}on press 1{ask 1 9;}");
        x.form(2, 0, 0, 1);
        x.use(0, true);
        DUE.comes(x, 0, 0, 0, 0, 0);
        DUE.is("never full", x.failed(), false);
        DUE.is("the latest alone", x.line(0, -1), 1);
        DUE.is("is to come", x.line(0, 0), 4);
        DUE.comes(x, 9);
        DUE.is("begot by the latest", x.happening(5, 1), 4);
        DUE.comes(x, 1, 1);
        DUE.is("other lines keep theirs", x.line(1, -1), 2);
    }

    private static void countingInAll() {
        ClickOrders x = DUE.of("on press 0{ask 0 1;}on press 1{a=1;}on answer 0{b=1;}harm a=1 and b=0;");
        DUE.is("worst without", x.worst(3, 600), 1);
        ClickOrders y = DUE.of("on start{ask 0 1;}on press 1{a=1;}on answer 0{b=1;if a=1 fail;}");
        y.form(0, 1, 0, 1);
        DUE.is("worst of y without", y.worst(3, 600), 2);
        y.use(0, true);
        DUE.is("worst of y with", y.worst(3, 600), -1);
        DUE.is("windows with", y.comes(0, 1), -1);
        y.use(0, false);
        DUE.is("windows without", y.comes(0, 1), 0);
        ClickOrders z = DUE.of("on start{ask 0 1;ask 0 1;}on answer 0{a=a+1;}harm a=2;");
        z.form(1, 0, 0, 1);
        DUE.is("worst of z without", z.worst(3, 600), 2);
        DUE.is("newer of z without", z.newer(3, 600), 2);
        z.use(0, true);
        DUE.is("worst of z with", z.worst(3, 600), -1);
        DUE.is("newer of z with", z.newer(3, 600), -1);
        z.tell(9);
        z.tell(9);
        DUE.is("cut of z with", z.cut(), -1);
        z.use(0, false);
        DUE.is("cut of z without", z.cut(), 2);
    }

    private static void cheapest() {
        String text = "on press 0{ask 0 1;b=1;}on press 1{if b=1 c=1;}on answer 0{b=0;}harm c=1;";
        ClickOrders x = DUE.of(text);
        DUE.is("without forms, safe by 2", x.cheapest(2, 0, 600, 0), 0);
        DUE.is("its price", x.cheapest(2, 0, 600, 1), 0);
        DUE.is("without forms, none by 3", x.cheapest(3, 0, 600, 0), -1);
        DUE.is("safe by 2 and 1 more", x.cheapest(2, 1, 600, 0), 0);
        DUE.is("without forms, none by 3 with 500 pages", x.cheapest(3, 0, 500, 0), -1);
        DUE.is("safe by 2 with 504", x.cheapest(2, 0, 504, 0), 0);
        DUE.is("nor a price", x.cheapest(3, 0, 600, 1), -1);
        x.form(2, 0, 0, 3);
        x.form(0, 1, 0, 7);
        x.form(0, 1, 0, 6);
        DUE.is("the cheapest", x.cheapest(3, 0, 600, 0), 4);
        DUE.is("its price", x.cheapest(3, 0, 600, 1), 6);
        DUE.is("by 4 an ask fails, but for form 2", x.cheapest(4, 0, 600, 0), 5);
        DUE.is("the price of both", x.cheapest(4, 0, 600, 1), 9);
        DUE.is("spent is not safe", x.cheapest(4, 0, 1, 0), -1);
        x.use(0, true);
        DUE.is("which are on is no matter", x.cheapest(3, 0, 600, 0), 4);
        DUE.is("and stays", x.use(0, true), true);
        DUE.is("worst behind it is with what is on", x.worst(3, 600), 3);
        x.form(0, 1, 0, 2);
        DUE.is("a new form counts", x.cheapest(3, 0, 600, 0), 8);
        DUE.throwing("what 2", IllegalArgumentException.class, () -> x.cheapest(1, 0, 1, 2));
        DUE.throwing("what -1", IllegalArgumentException.class, () -> x.cheapest(1, 0, 1, -1));
        DUE.throwing("by 4 more", IllegalArgumentException.class, () -> x.cheapest(1, 4, 1, 0));
        Due.reads(x, "on press 0{fail;}");
        DUE.is("another program", x.cheapest(3, 0, 600, 0), -1);
    }

    private static void ties() {
        String text = "on start{ask 0 1;ask 1 1;}on press 0{if b=0 fail;}on press 1{if c=0 fail;}on answer 0{b=1;}on answer 1{c=1;}";
        ClickOrders x = DUE.of(text);
        x.form(0, 1, 1, 2);
        x.form(0, 0, 0, 2);
        x.form(0, 0, 0, 2);
        x.form(0, 1, 1, 2);
        DUE.is("the first of equal ones", x.cheapest(2, 0, 600, 0), 0b0011);
        DUE.is("their price", x.cheapest(2, 0, 600, 1), 4);
        ClickOrders free = DUE.of(text);
        free.form(1, 0, 2, 0);
        free.form(0, 0, 0, 0);
        free.form(0, 1, 1, 0);
        DUE.is("the fewest of equal price", free.cheapest(2, 0, 600, 0), 0b110);
        DUE.is("for nothing", free.cheapest(2, 0, 600, 1), 0);
        ClickOrders fewer = DUE.of("on start{ask 0 1;}on press 0{if b=0 fail;}on answer 0{b=1;}");
        fewer.form(1, 0, 3, 0);
        fewer.form(0, 0, 0, 5);
        fewer.form(0, 0, 0, 5);
        DUE.is("one is enough", fewer.cheapest(1, 0, 600, 0), 0b010);
    }

    /** A set that is never spoilt may leave pages stuck, and does not please then. */
    private static void stuckSets() {
        String text = "on start{ask 0 1;ask 0 2;}on answer 0{a=a+got;}on press 0{if a=1 fail;}place a=3;";
        ClickOrders x = DUE.of(text);
        x.form(1, 0, 0, 1);
        x.form(0, 0, 0, 5);
        DUE.is("form 1 swallows the first, so that a is never 3", x.cheapest(3, 2, 600, 0), 0b10);
        DUE.is("with no more none is safe", x.cheapest(3, 1, 600, 0), -1);
    }

    public static void main(String[] args) {
        making();
        sortZero();
        sortOne();
        sortTwo();
        countingInAll();
        cheapest();
        ties();
        stuckSets();
        DUE.ends();
    }
}
