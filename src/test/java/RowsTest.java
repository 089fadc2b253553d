/** Promises 22 to 25 and 38: all rows up to a length, the first that spoils, pages that are stuck, versions. */
public final class RowsTest {
    private static final Due DUE = new Due();

    private static void row(ClickOrders x, int n, int pages, int... due) {
        DUE.is("worst(" + n + ", " + pages + ")", x.worst(n, pages), due.length);
        for (int k = 0; k < due.length; k++) {
            DUE.is("step(" + n + ", " + pages + ", " + k + ")", x.step(n, pages, k), due[k]);
        }
        DUE.is("step behind the last", x.step(n, pages, due.length), -1);
        DUE.is("step ahead of the first", x.step(n, pages, -1), -1);
    }

    private static void theFirstThatSpoils() {
        ClickOrders x = DUE.of("on press 3{a=1;}on press 5{if a=1 fail;}on press 1{b=1;}on press 6{if b=1 fail;}");
        row(x, 4, 600, 1, 6);
        DUE.is("worst by 1", x.worst(1, 600), -1);
        DUE.is("step without", x.step(1, 600, 0), -1);
        ClickOrders start = DUE.of("on start{fail;}");
        row(start, 0, 1);
        row(start, 8, 1);
        ClickOrders harm = DUE.of("on press 0{a=a+1;}harm a=3;");
        row(harm, 8, 600, 0, 0, 0);
        DUE.is("not by 2", harm.worst(2, 600), -1);
    }

    private static void answersAndClocks() {
        ClickOrders x = DUE.of("on press 2{ask 3 1;clock 1 5;}on answer 3{a=a*2+1;}on clock 1{a=a*2;}harm a=2;");
        row(x, 3, 600, 2, 12, 8);
        ClickOrders y = DUE.of("on press 2{ask 3 1;clock 1 5;}on answer 3{a=a*2+1;}on clock 1{a=a*2;}harm a=1;");
        row(y, 3, 600, 2, 8, 12);
    }

    private static void spent() {
        ClickOrders x = DUE.of("on press 0{a=a+1;}harm a=4;");
        DUE.is("five pages by 4", x.pages(4, 5), 5);
        DUE.is("four are too few", x.pages(4, 4), -2);
        DUE.is("worst with five", x.worst(4, 5), 4);
        DUE.is("worst with four", x.worst(4, 4), -2);
        DUE.is("step with four", x.step(4, 4, 0), -1);
        DUE.is("the search ends at the first, though it would be spent later", x.worst(8, 5), 4);
        DUE.is("pages goes on", x.pages(8, 5), -2);
        DUE.is("stuck is spent, too", x.stuck(8, 0, 5), -2);
        DUE.is("worst behind pages", x.worst(8, 5), 4);
        DUE.is("pages by 0", x.pages(0, 1), 1);
        DUE.is("worst(4, 8)", x.worst(4, 8), 4);
        DUE.is("worst(3, 9)", x.worst(3, 9), -1);
        DUE.is("worst(8, 4)", x.worst(8, 4), -2);
        DUE.is("pages(3, 9)", x.pages(3, 9), 4);
        DUE.is("pages(4, 8)", x.pages(4, 8), 5);
    }

    private static void alike() {
        ClickOrders x = DUE.of("on press 0{a=1-a;}on press 1{b=1-b;}");
        DUE.is("four pages at most", x.pages(8, 600), 4);
        DUE.is("three by 1", x.pages(1, 600), 3);
        ClickOrders hours = DUE.of("on start{clock 0 3;}");
        DUE.is("hours make pages", hours.pages(2, 600), 4);
        ClickOrders begetters = DUE.of("on press 0{ask 0 1;}on press 1{ask 0 1;}");
        DUE.is("who asked is no matter", begetters.pages(1, 600), 2);
        ClickOrders order = DUE.of("on press 0{clock 0 0;}on press 1{clock 1 0;}");
        DUE.is("the order in which clocks were begun is", order.pages(2, 600), 7);
        ClickOrders failed = DUE.of("on press 0{fail;}");
        DUE.is("spoilt ones count, too", failed.pages(3, 600), 2);
    }

    private static void stuck() {
        ClickOrders x = DUE.of("on press 0{a=a+1;}place a=3;");
        DUE.is("itself", x.stuck(3, 0, 600), 3);
        DUE.is("by 1 more", x.stuck(3, 1, 600), 2);
        DUE.is("by 2 more", x.stuck(3, 2, 600), 1);
        DUE.is("by 3 more", x.stuck(3, 3, 600), 0);
        DUE.is("behind it, too", x.stuck(5, 3, 600), 2);
        DUE.is("not by 0", x.stuck(0, 2, 600), 1);
        DUE.is("beyond the rows", x.stuck(0, 3, 600), 0);
        DUE.is("beyond the pages told", x.stuck(0, 3, 1), 0);
        ClickOrders none = DUE.of("on press 0{fail;}");
        DUE.is("without place all is one", none.stuck(4, 0, 600), 0);
        ClickOrders waiting = DUE.of("on press 0{ask 0 1;}on answer 0{a=1;}place far 0=1 or a=1;");
        DUE.is("place holds though something is to come", waiting.stuck(2, 1, 600), 1);
        DUE.is("the last place counts", DUE.of("place a=1;place a=0;").stuck(1, 0, 9), 0);
        ClickOrders back = DUE.of("on press 0{a=1;}on press 1{a=0;}place a=0;");
        DUE.is("back to the first page", back.stuck(1, 1, 600), 0);
        DUE.is("not by none", back.stuck(1, 0, 600), 1);
        ClickOrders idle = DUE.of("on start{clock 0 2;}on clock 0{a=1;}on press 0{fail;}place a=0 and far 0=0;");
        DUE.is("presses that do nothing", idle.stuck(2, 1, 600), 2);
        ClickOrders failed = DUE.of("on press 0{clock 0 1;clock 0 1;clock 0 1;clock 0 1;a=1;}place a=1;");
        DUE.is("never, as it fails", failed.stuck(1, 3, 600), 2);
    }

    private static void wideStuck() {
        ClickOrders x = DUE.of("on press 0{a=a*2;}on press 1{a=a*2+1;}on press 2{b=b*3+1;}on press 3{b=b*3+2;}on press 4{c=c+1;}"
            + "on press 5{c=c*2+5;}on press 6{d=d+7;}on press 7{d=d*3+1;}place h=1;");
        DUE.is("pages by 2", x.pages(2, 600), PlainPages.TWO);
        DUE.is("all are stuck, also where there is no room to keep them", x.stuck(2, 3, 600), PlainPages.TWO);
        ClickOrders y = DUE.of("on press 0{a=a*2;}on press 1{a=a*2+1;}on press 2{b=b*3+1;}on press 3{b=b*3+2;}on press 4{c=c+1;}"
            + "on press 5{c=c*2+5;}on press 6{d=d+7;}on press 7{d=d*3+1;}place d=22 and c=1;");
        DUE.is("some are not", y.stuck(2, 3, 600), PlainPages.STUCK);
    }

    /** 8, 64 and 512 pages by 1, 2 and 3: what stands behind them is far more than can be kept. */
    private static void noRoom() {
        StringBuilder text = new StringBuilder();
        for (int k = 0; k < 8; k++) {
            text.append("on press ").append(k).append("{a=a*9+").append(k + 1).append(";}");
        }
        ClickOrders x = DUE.of(text + "place a>9*9*9*9*9 and a-a/9*9=8;");
        DUE.is("pages by 3", x.pages(3, 600), 585);
        DUE.is("by 3 and 3 more all of the last 512 get there", x.stuck(3, 3, 600), 73);
        DUE.is("by 2 more none", x.stuck(3, 2, 600), 585);
        DUE.is("too few pages", x.stuck(3, 3, 584), -2);
        Due.reads(x, text + "place a>9*9*9*9 and a-a/9*9=8;");
        DUE.is("by 3 and 2 more", x.stuck(3, 2, 600), 73);
        DUE.is("by 2 and 3 more", x.stuck(2, 3, 600), 9);
        Due.reads(x, text + "place a=9*9*9*9*9*7+1+9*(2+9*(3+9*(4+9*5)));");
        DUE.is("one page of all", x.stuck(3, 3, 600), 584);
    }

    /** Nothing of rows ahead is left when another program is asked. */
    private static void nothingLeft() {
        ClickOrders x = DUE.of("on press 0{a=a+1;}place a=3;");
        DUE.is("the first", x.stuck(5, 3, 600), 2);
        Due.reads(x, "on press 5{b=1;}place b=1;");
        DUE.is("the second", x.stuck(0, 1, 600), 0);
        Due.reads(x, "on press 5{b=1;}on press 6{b=2;}place b=2;");
        DUE.is("the third", x.stuck(0, 1, 600), 0);
        DUE.is("the third by none", x.stuck(1, 0, 600), 2);
        Due.reads(x, "on press 5{b=1;}place b=2;");
        DUE.is("the fourth", x.stuck(1, 2, 600), 2);
        DUE.is("its worst", x.worst(3, 600), -1);
        Due.reads(x, "on press 5{fail;}place b=2;");
        DUE.is("the fifth's worst", x.worst(3, 600), 1);
    }

    /** What the plain model says of the programs above, counted once. */
    private static final class PlainPages {
        static final int TWO = count("place h=1;", false);
        static final int STUCK = count("place d=22 and c=1;", true);

        static int count(String place, boolean isStuck) {
            PlainOrders plain = new PlainOrders();
            String text = "on press 0{a=a*2;}on press 1{a=a*2+1;}on press 2{b=b*3+1;}on press 3{b=b*3+2;}on press 4{c=c+1;}"
                + "on press 5{c=c*2+5;}on press 6{d=d+7;}on press 7{d=d*3+1;}" + place;
            for (int at = 0; at < text.length(); at += 20) {
                int[] n = new int[5];
                for (int k = 0; k < 20; k++) {
                    n[k / 4] = n[k / 4] << 8 | (at + k < text.length() ? text.charAt(at + k) : 0);
                }
                plain.feed(n);
            }
            plain.program(text.length());
            return isStuck ? plain.stuck(2, 3, 600) : plain.pages(2, 600);
        }
    }

    private static void versions() {
        ClickOrders x = new ClickOrders();
        DUE.is("newer of nothing", x.newer(8, 600), -1);
        Due.reads(x, "on press 0{a=a+1;}harm a=2;");
        DUE.is("nothing was ahead", x.newer(3, 600), 2);
        DUE.is("not by 1", x.newer(1, 600), -1);
        DUE.is("spent", x.newer(3, 2), -1);
        Due.reads(x, "on press 0{fail");
        DUE.is("a fault keeps both", x.newer(3, 600), 2);
        Due.reads(x, "on press 0{fail;}");
        DUE.is("the old one spoils by 2", x.newer(2, 600), -1);
        DUE.is("but not by 1", x.newer(1, 600), 1);
        DUE.is("the old one is spent with 2 pages", x.newer(2, 2), 1);
        DUE.is("worst is of the new one", x.worst(2, 600), 1);
        DUE.is("the run is the new one's", x.come(0), 0);
        DUE.is("and failed", x.failed(), true);
        Due.reads(x, "");
        DUE.is("the new one is empty", x.newer(8, 600), -1);
        Due.reads(x, "on start{fail;}");
        DUE.is("a start that fails", x.newer(0, 1), 0);
        Due.reads(x, "on press 0{fail;}");
        DUE.is("the old one spoils by none", x.newer(1, 600), -1);
    }

    private static void limits() {
        ClickOrders x = new ClickOrders();
        int[][] wrong = {{-1, 1}, {9, 1}, {0, 0}, {0, 601}, {0, -1}, {Integer.MIN_VALUE, 5}, {3, Integer.MAX_VALUE}};
        for (int[] w : wrong) {
            String told = "(" + w[0] + ", " + w[1] + ")";
            DUE.throwing("worst" + told, IllegalArgumentException.class, () -> x.worst(w[0], w[1]));
            DUE.throwing("step" + told, IllegalArgumentException.class, () -> x.step(w[0], w[1], 0));
            DUE.throwing("pages" + told, IllegalArgumentException.class, () -> x.pages(w[0], w[1]));
            DUE.throwing("stuck" + told, IllegalArgumentException.class, () -> x.stuck(w[0], 0, w[1]));
            DUE.throwing("newer" + told, IllegalArgumentException.class, () -> x.newer(w[0], w[1]));
            DUE.throwing("cheapest" + told, IllegalArgumentException.class, () -> x.cheapest(w[0], 0, w[1], 0));
        }
        DUE.throwing("stuck by 4", IllegalArgumentException.class, () -> x.stuck(0, 4, 1));
        DUE.throwing("stuck by -1", IllegalArgumentException.class, () -> x.stuck(0, -1, 1));
        DUE.is("the edges are well", x.worst(8, 600) + x.worst(0, 1) + x.stuck(8, 3, 600), -2);
    }

    /** A run goes on beside the rows, which always start anew. */
    private static void besideTheRun() {
        ClickOrders x = DUE.of("on press 0{a=a+1;}harm a=3;");
        DUE.comes(x, 0, 0);
        DUE.is("from a begun page", x.worst(8, 600), 3);
        DUE.is("the run is as it was", x.name(0), 2);
        DUE.is("with its happenings", x.count(2), 2);
    }

    public static void main(String[] args) {
        theFirstThatSpoils();
        answersAndClocks();
        spent();
        alike();
        stuck();
        wideStuck();
        noRoom();
        nothingLeft();
        versions();
        limits();
        besideTheRun();
        DUE.ends();
    }
}
