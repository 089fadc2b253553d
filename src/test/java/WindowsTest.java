/** Promises 34 to 37: two windows over the same far rows, and the words that are lost. */
public final class WindowsTest {
    private static final Due DUE = new Due();

    private static void losing() {
        ClickOrders x = DUE.of("on press 0{a=far 0;}on press 1{save 0 a+1;}on press 2{save 0 far 0+1;}on press 3{if far 0=9 b=1;}"
            + "on press 4{save 1 5;}");
        DUE.is("nobody saved ahead", x.comes(0, 1), 0);
        DUE.is("its own word", x.comes(0, 1), 0);
        DUE.is("a word is lost", x.comes(1, 1), 1);
        DUE.is("that was its own", x.comes(1, 1), 1);
        DUE.is("asked for in the save itself", x.comes(0, 2), 1);
        DUE.is("asked for in a condition", x.comes(1, 3), 1);
        DUE.is("and so not lost", x.comes(1, 1), 1);
        DUE.is("window 0 asks", x.comes(0, 0), 1);
        DUE.is("window 1 saves again", x.comes(1, 1), 1);
        DUE.is("asked for ahead of that, and so lost", x.comes(0, 1), 2);
        DUE.is("another row", x.comes(0, 4), 2);
        DUE.is("is lost by itself", x.comes(1, 4), 3);
        DUE.is("windows() tells how many", x.windows(), 3);
        DUE.is("0 saves a row", x.comes(0, 1), 0);
        DUE.is("0 saves another row", x.comes(0, 4), 0);
        DUE.is("1 loses the first", x.comes(1, 1), 1);
        DUE.is("1 loses the other", x.comes(1, 4), 2);
        DUE.is("windows() again", x.windows(), 2);
        DUE.is("and none behind", x.windows(), 0);
        DUE.is("begun anew", x.comes(1, 1), 0);
    }

    private static void showing() {
        ClickOrders x = DUE.of("on start{b=far 0;save 0 b+1;}on press 0{a=a+1;save 1 a;}on press 1{c=far 1;hide 1;}");
        DUE.is("0 was begun first", x.shows(0, 1), 0);
        DUE.is("then 1, over the same rows", x.shows(1, 1), 1);
        DUE.is("no word was lost by that", x.windows(), 0);
        x.comes(0, 0);
        x.comes(0, 0);
        DUE.is("names are the window's own", x.shows(0, 0), 2);
        DUE.is("not the other's", x.shows(1, 0), 0);
        x.comes(1, 1);
        DUE.is("rows are the same", x.shows(1, 2), 2);
        DUE.is("it can not", x.comes(1, 1), -1);
        DUE.is("the other can", x.comes(0, 1), 0);
        DUE.is("the run is beside them", x.name(0), 0);
        DUE.is("with rows of its own", x.far(1), 0);
        DUE.throwing("comes(2, 0)", IllegalArgumentException.class, () -> x.comes(2, 0));
        DUE.throwing("comes(-1, 0)", IllegalArgumentException.class, () -> x.comes(-1, 0));
        DUE.throwing("comes(0, 13)", IllegalArgumentException.class, () -> x.comes(0, 13));
        DUE.throwing("comes(0, -1)", IllegalArgumentException.class, () -> x.comes(0, -1));
        DUE.throwing("shows(2, 0)", IllegalArgumentException.class, () -> x.shows(2, 0));
        DUE.throwing("shows(-1, 0)", IllegalArgumentException.class, () -> x.shows(-1, 0));
        DUE.throwing("shows(0, 8)", IndexOutOfBoundsException.class, () -> x.shows(0, 8));
        DUE.throwing("shows(0, -1)", IndexOutOfBoundsException.class, () -> x.shows(0, -1));
        DUE.throwing("shows(2, 8)", IndexOutOfBoundsException.class, () -> x.shows(2, 8));
    }

    private static void startsCount() {
        ClickOrders x = DUE.of("on start{save 2 1;}on press 0{save 2 3;}");
        DUE.is("the start of 1 lost one", x.comes(1, 0), 1);
        DUE.is("0 loses another", x.comes(0, 0), 2);
        DUE.is("windows()", x.windows(), 2);
        DUE.is("their starts with it", x.windows(), 1);
        DUE.is("lost(0)", x.lost(0), 0);
        DUE.is("lost(3)", x.lost(3), 0);
    }

    private static void fewest() {
        ClickOrders none = new ClickOrders();
        DUE.is("lost(3) of nothing", none.lost(3), -1);
        ClickOrders two = DUE.of("on press 0{a=far 0;}on press 1{save 0 a+1;}");
        DUE.is("lost(3)", two.lost(3), 2);
        DUE.is("lost(2)", two.lost(2), 2);
        DUE.is("lost(1)", two.lost(1), -1);
        DUE.is("lost(0)", two.lost(0), -1);
        DUE.is("the windows are as they were", two.comes(0, 1), 0);
        ClickOrders safe = DUE.of("on press 1{save 0 far 0+1;}");
        DUE.is("never lost", safe.lost(3), -1);
        ClickOrders one = DUE.of("on start{if far 3=0 save 0 1;save 3 1;}on press 0{save 0 2;}");
        DUE.is("lost by one", one.lost(3), 1);
        DUE.is("not by none", one.lost(0), -1);
        ClickOrders three = DUE.of("on press 1{ask 0 1;}on answer 0{save 0 1;}on start{if far 1=0 ask 1 1;save 1 far 1+1;}"
            + "on answer 1{save 0 2;}");
        DUE.is("lost by three", three.lost(3), 3);
        DUE.is("not by two", three.lost(2), -1);
        DUE.throwing("lost(4)", IllegalArgumentException.class, () -> three.lost(4));
        DUE.throwing("lost(-1)", IllegalArgumentException.class, () -> three.lost(-1));
        two.form(0, 1, 0, 0);
        DUE.is("a form that is off", two.lost(3), 2);
        Due.reads(two, "on press 1{save 0 far 0;}");
        DUE.is("another program", two.lost(3), -1);
    }

    private static void formsInWindows() {
        ClickOrders x = DUE.of("on start{ask 0 1;}on press 1{save 0 1;}");
        DUE.is("without", x.lost(2), 2);
        x.form(0, 1, 0, 1);
        x.use(0, true);
        DUE.is("with the form two are too few", x.lost(3), -1);
        x.use(0, false);
        DUE.is("without again", x.lost(2), 2);
    }

    public static void main(String[] args) {
        losing();
        showing();
        startsCount();
        fewest();
        formsInWindows();
        DUE.ends();
    }
}
