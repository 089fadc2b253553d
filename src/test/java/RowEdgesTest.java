/** Promises 22 to 25 and 38 at their edges: rows of none and of 8, pages just enough and one too few, what is stuck by just so many. */
public final class RowEdgesTest {
    private static final Due DUE = new Due();
    private static final int[] FAR_OUT = {Integer.MIN_VALUE, -1, 601, 602, 1000, 1024, 1025, Integer.MAX_VALUE};

    private static void row(ClickOrders x, int n, int pages, int... due) {
        String told = "(" + n + ", " + pages + ")";
        DUE.is("22: worst" + told, x.worst(n, pages), due.length);
        for (int k = 0; k < due.length; k++) {
            DUE.is("23: step" + told + " " + k, x.step(n, pages, k), due[k]);
        }
        for (int k : new int[] {-1, due.length, due.length + 1, Integer.MIN_VALUE, Integer.MAX_VALUE}) {
            DUE.is("23: step" + told + " " + k, x.step(n, pages, k), -1);
        }
    }

    private static void none(ClickOrders x, int n, int pages, int due) {
        String told = "(" + n + ", " + pages + ")";
        DUE.is("22: worst" + told, x.worst(n, pages), due);
        DUE.is("23: step" + told, x.step(n, pages, 0), -1);
    }

    private static void wrong(ClickOrders x, int n, int pages) {
        String told = "(" + n + ", " + pages + ")";
        DUE.throwing("22: worst" + told, IllegalArgumentException.class, () -> x.worst(n, pages));
        DUE.throwing("23: step" + told, IllegalArgumentException.class, () -> x.step(n, pages, 0));
        DUE.throwing("24: pages" + told, IllegalArgumentException.class, () -> x.pages(n, pages));
        DUE.throwing("25: stuck" + told, IllegalArgumentException.class, () -> x.stuck(n, 0, pages));
        DUE.throwing("33: cheapest" + told, IllegalArgumentException.class, () -> x.cheapest(n, 0, pages, 0));
        DUE.throwing("38: newer" + told, IllegalArgumentException.class, () -> x.newer(n, pages));
    }

    private static void wrongNumbers() {
        ClickOrders x = DUE.of("on press 0{a=a+1;if a=2 fail;}place a=1;");
        DUE.comes(x, 0, 4);
        String ahead = Due.all(x);
        for (int n : new int[] {-1, 9, 10, Integer.MIN_VALUE, Integer.MAX_VALUE}) {
            wrong(x, n, 1);
            wrong(x, n, 600);
            wrong(x, n, 0);
        }
        for (int pages : FAR_OUT) {
            wrong(x, 0, pages);
            wrong(x, 8, pages);
        }
        wrong(x, 0, 0);
        for (int m : new int[] {-1, 4, Integer.MIN_VALUE, Integer.MAX_VALUE}) {
            DUE.throwing("25: stuck by " + m, IllegalArgumentException.class, () -> x.stuck(0, m, 1));
            DUE.throwing("33: cheapest by " + m, IllegalArgumentException.class, () -> x.cheapest(0, m, 1, 0));
        }
        DUE.same("22 to 25: wrong numbers", Due.all(x), ahead);
        row(x, 8, 600, 0, 0);
        row(x, 2, 3, 0, 0);
        none(x, 0, 1, -1);
        none(x, 8, 1, -2);
        DUE.is("25: stuck(0, 0, 1)", x.stuck(0, 0, 1), 1);
        DUE.is("25: stuck(0, 3, 1)", x.stuck(0, 3, 1), 0);
        DUE.same("22 to 25: they leave all as it was", Due.all(x), ahead);
    }

    /** A row of none: the begun page, which may be spoilt, stuck and all there is. */
    private static void ofNone() {
        row(DUE.of("on start{fail;}"), 0, 1);
        row(DUE.of("on start{fail;}"), 8, 600);
        row(DUE.of("harm a=0;on press 0{a=1;}"), 8, 1);
        ClickOrders more = DUE.of("on press 0{b=1;}on press 1{fail;}harm a=0;");
        DUE.is("24: pages behind one that is spoilt", more.pages(8, 600), 4);
        row(more, 8, 600);
        none(DUE.of("on press 0{fail;}"), 0, 1, -1);
        none(DUE.of("on press 0{fail;}"), 0, 600, -1);
        none(DUE.of("on start{ask 0 1;}harm a=0;"), 0, 1, -1);
        row(DUE.of("on start{ask 0 1;}harm a=0;"), 1, 2, 9);
        none(DUE.of("on start{clock 0 0;}harm a=0;"), 0, 1, -1);
        row(DUE.of("on start{clock 0 0;}harm a=0;"), 1, 2, 8);
        DUE.is("24: one page", DUE.of("on press 0{a=1;}").pages(0, 1), 1);
        DUE.is("25: it is stuck", DUE.of("place a=1;").stuck(0, 0, 1), 1);
        DUE.is("25: it is not", DUE.of("place a=0;").stuck(0, 0, 1), 0);
    }

    /** A row of 8 is the longest; n happenings at most are asked. */
    private static void lengths() {
        for (int length = 1; length <= 8; length++) {
            ClickOrders x = DUE.of("on press 5{a=a+1;}harm a=" + length + ";");
            none(x, length - 1, 600, -1);
            int[] due = new int[length];
            java.util.Arrays.fill(due, 5);
            row(x, length, 600, due);
            row(x, 8, 600, due);
            row(x, length, length + 1, due);
            none(x, length, length, -2);
            DUE.is("24: pages by " + length, x.pages(length, length + 1), length + 1);
            DUE.is("24: one too few", x.pages(length, length), -2);
        }
        none(DUE.of("on press 5{a=a+1;}harm a=9;"), 8, 600, -1);
    }

    /** By the number of happenings first, then code by code; of rows to one page the first. */
    private static void order() {
        ClickOrders shorter = DUE.of("on press 7{a=9;}on press 0{b=b+1;}harm a=9 or b=2;");
        row(shorter, 8, 600, 7);
        ClickOrders least = DUE.of("on press 1{a=a+1;}on press 2{a=a+1;}on press 6{if a=1 b=1;}on press 4{if a=1 b=1;}harm b=1;");
        row(least, 8, 600, 1, 4);
        ClickOrders first = DUE.of("on press 3{a=1;}on press 4{b=1;}on press 6{if a=1 if b=0 fail;}on press 5{if a=0 if b=1 fail;}");
        row(first, 8, 600, 3, 6);
        ClickOrders way = DUE.of("on press 6{a=1;}on press 2{b=1;}harm a=1 and b=1;");
        row(way, 8, 600, 2, 6);
        ClickOrders kinds = DUE.of("on start{clock 0 0;ask 0 1;ask 3 1;}on clock 0{fail;}on answer 0{fail;}on answer 3{fail;}");
        row(kinds, 1, 600, 8);
        ClickOrders answers = DUE.of("on start{clock 0 0;ask 0 1;ask 3 1;}on answer 0{fail;}on answer 3{fail;}");
        row(answers, 1, 600, 9);
        ClickOrders last = DUE.of("on start{clock 0 0;ask 0 1;ask 3 1;}on answer 3{fail;}");
        row(last, 1, 600, 12);
        ClickOrders press = DUE.of("on start{clock 0 0;ask 0 1;ask 3 1;}on answer 3{fail;}on press 7{fail;}");
        row(press, 1, 600, 7);
        ClickOrders both = DUE.of("on press 0{a=1;}on press 7{b=1;}on press 3{if a=1 if b=1 fail;}");
        row(both, 3, 600, 0, 7, 3);
    }

    /** 600 pages, and 601: see the two limits. 73 pages by 2 have 8 more each, one of 4 has 8 and one 7 or 8. */
    private static String tree(int limit, String behind) {
        StringBuilder text = new StringBuilder();
        for (int k = 0; k < 8; k++) {
            text.append("on press ").append(k).append("{if a<").append(k < 7 ? 93 : limit).append(" a=a*9+").append(k + 1).append(";}");
        }
        return text + behind;
    }

    private static void sixHundred() {
        ClickOrders x = DUE.of(tree(92, ""));
        DUE.is("24: pages by 3", x.pages(3, 585), 585);
        DUE.is("24: one too few", x.pages(3, 584), -2);
        DUE.is("24: just 600", x.pages(4, 600), 600);
        DUE.is("24: by 8, too", x.pages(8, 600), 600);
        DUE.is("24: 599 are too few", x.pages(4, 599), -2);
        none(x, 4, 600, -1);
        none(x, 4, 599, -2);
        ClickOrders more = DUE.of(tree(93, ""));
        DUE.is("24: 601", more.pages(4, 600), -2);
        none(more, 4, 600, -2);
        none(more, 3, 600, -1);
        ClickOrders last = DUE.of(tree(92, "harm a=835;"));
        row(last, 4, 600, 0, 0, 1, 6);
        none(last, 4, 599, -2);
        none(last, 3, 600, -1);
        ClickOrders beyond = DUE.of(tree(93, "harm a=836;"));
        none(beyond, 4, 600, -2);
        row(DUE.of(tree(93, "harm a=835;")), 4, 600, 0, 0, 1, 6);
        DUE.is("25: all but one of 600 are stuck", DUE.of(tree(92, "place a=835;")).stuck(8, 0, 600), 599);
        DUE.is("25: by 1 more all but two", DUE.of(tree(92, "place a=835;")).stuck(8, 1, 600), 598);
        DUE.is("25: by 3 more all but four", DUE.of(tree(92, "place a=835;")).stuck(8, 3, 600), 596);
        DUE.is("25: 601 are too many", DUE.of(tree(93, "place a=0;")).stuck(4, 0, 600), -2);
    }

    /** The search ends at the first page that is spoilt, also if it would be spent later; if it is spent ahead of that, it is spent. */
    private static void spent() {
        ClickOrders x = DUE.of("on press 0{a=1;}on press 1{a=2;fail;}on press 2{a=3;}");
        row(x, 1, 3, 1);
        none(x, 1, 2, -2);
        row(x, 1, 4, 1);
        row(x, 8, 3, 1);
        DUE.is("24: four by 1", x.pages(1, 4), 4);
        DUE.is("24: three are too few", x.pages(1, 3), -2);
        DUE.is("25: for stuck, too", x.stuck(1, 0, 3), -2);
        DUE.is("25: four are not", x.stuck(1, 0, 4), 0);
        row(x, 1, 3, 1);
        ClickOrders idle = new ClickOrders();
        DUE.is("24: alike pages are met once", idle.pages(8, 1), 1);
        DUE.is("22: and need no room", idle.worst(8, 1), -1);
    }

    private static void count(String text, int n, int due) {
        ClickOrders x = DUE.of(text);
        DUE.is("24: pages(" + n + ") of " + text, x.pages(n, 600), due);
        DUE.is("24: just so many are enough", x.pages(n, due), due);
        DUE.is("24: one less is not", due == 1 ? -2 : x.pages(n, due - 1), -2);
    }

    /** Each thing that a page has makes pages; how it came to be so makes none. */
    private static void alike() {
        count("on press 0{a=1;}", 1, 2);
        count("on press 0{h=1;}", 1, 2);
        count("on press 0{a=0;}", 1, 1);
        count("on press 0{hide 7;}", 1, 2);
        count("on press 0{grey 7;}", 1, 2);
        count("on press 0{hide 6;}on press 1{grey 6;}", 1, 3);
        count("on press 0{show 7;live 7;}", 1, 1);
        count("on press 0{save 3 1;}", 1, 2);
        count("on press 0{save 3 0;}", 1, 1);
        count("on press 0{fail;}", 1, 2);
        count("on press 0{ask 0 0;}on press 1{ask 3 0;}", 1, 3);
        count("on press 0{ask 0 0;}on press 1{ask 0 1;}", 1, 3);
        count("on press 0{ask 0 0;}on press 1{ask 0 0;}", 1, 2);
        count("on press 0{ask 0 1;ask 0 2;}on press 1{ask 0 2;ask 0 1;}", 1, 3);
        count("on press 0{ask 0 0;}on press 1{ask 0 0;ask 0 0;}", 1, 3);
        count("on press 0{ask 0 1;ask 1 1;}on press 1{ask 1 1;ask 0 1;}", 1, 2);
        count("on press 0{clock 0 0;}on press 1{clock 3 0;}", 1, 3);
        count("on press 0{clock 0 0;}on press 1{clock 0 1;}", 1, 3);
        count("on press 0{clock 0 0;}on press 1{clock 0 0;}", 1, 2);
        count("on press 0{clock 0 0;}on press 1{clock 0 0;clock 0 0;}", 1, 3);
        count("on press 0{clock 0 1;clock 0 2;}on press 1{clock 0 2;clock 0 1;}", 1, 3);
        count("on press 0{clock 1 0;ask 1 1;}on press 1{ask 1 1;clock 1 0;}", 1, 2);
        count("on press 0{ask 0 1;}on press 1{clock 0 1;}on press 2{a=1;}", 1, 4);
        count("on start{clock 0 3;}on press 0{a=1;}", 1, 4);
        count("on start{clock 0 3;}on press 7{a=1;}", 1, 4);
        count("on start{clock 0 3;}on press 0{a=0;}", 1, 3);
    }

    /** A line or the clocks that were full and are not any more are as if they never were. */
    private static void alikeAgain() {
        for (int line = 0; line < 4; line++) {
            String asks = "ask " + line + " 5;ask " + line + " 6;ask " + line + " 7;";
            count("on press 0{" + asks + "stop " + line + ";}", 1, 1);
            count("on press 0{" + asks + "stop " + line + ";ask " + line + " 9;}on press 1{ask " + line + " 9;}", 1, 2);
            // three to come, two, one, none again; each of them with a failure once pressed
            count("on press 0{" + asks + "}", 4, 10);
            String other = "ask " + (line + 1) % 4 + " 1;";
            count("on start{" + other + "}on press 0{" + asks + "stop " + line + ";}", 0, 1);
            count("on start{" + other + "hide 0;}on press 1{" + asks + "stop " + line + ";}", 1, 2);
            count("on start{" + asks + "}on press 1{stop " + line + ";ask " + line + " 6;ask " + line + " 7;}", 1, 2);
            count("on start{" + asks + "}on press 1{stop " + line + ";ask " + line + " 7;}", 2, 4);
            count("on start{" + asks + "hide 0;}", 3, 4);
            count("on start{" + asks + "}on press 0{if a=0 ask " + line + " 8;}on answer " + line + "{a=1;}", 3, 7);
        }
        // clock 3 begins itself anew, so that two of them come to be two again by way of three
        count("on start{clock 3 0;clock 1 0;}on clock 3{clock 3 0;}on press 0{clock 1 0;}", 3, 9);
        count("on start{clock 0 0;clock 1 0;clock 2 0;}", 8, 4);
        count("on start{clock 0 2;clock 1 1;clock 2 0;}", 1, 3);
        count("on start{clock 0 0;clock 0 0;clock 0 0;}on clock 0{clock 0 0;}", 8, 1);
        ClickOrders x = DUE.of("on press 0{ask 3 1;ask 3 2;ask 3 3;}");
        DUE.comes(x, 0, 12, 12, 12);
        x.tell(0);
        DUE.is("24: from a begun page, whatever the run and the told row are", x.pages(0, 1), 1);
    }

    /** 25: by 0 itself, by 1, 2 and 3 what can be reached by so many at most; spoilt pages count, and those behind them. */
    private static void stuck() {
        for (int m = 0; m <= 3; m++) {
            for (int goal = 0; goal <= 5; goal++) {
                ClickOrders x = DUE.of("on press 2{a=a+1;}place a=" + goal + ";");
                for (int n = 0; n <= 4; n++) {
                    int due = 0;
                    for (int a = 0; a <= n; a++) {
                        due += goal >= a && goal <= a + m ? 0 : 1;
                    }
                    DUE.is("25: stuck(" + n + ", " + m + ") for " + goal, x.stuck(n, m, 600), due);
                }
            }
        }
        ClickOrders spoilt = DUE.of("on press 0{a=a+1;if a=1 fail;}place a>4;");
        DUE.is("25: spoilt ones are stuck, too", spoilt.stuck(3, 0, 600), 4);
        DUE.is("25: and lead on", spoilt.stuck(3, 3, 600), 2);
        ClickOrders busy = DUE.of("on start{ask 0 1;clock 0 3;}on answer 0{a=1;}on clock 0{b=1;}place a=1 and b=1;");
        DUE.is("25: by two more", busy.stuck(0, 2, 1), 0);
        DUE.is("25: not by one", busy.stuck(0, 1, 1), 1);
        ClickOrders dead = DUE.of("on start{hide 0;hide 1;hide 2;hide 3;hide 4;hide 5;hide 6;hide 7;}place a=1;");
        DUE.is("25: nothing can come at all", dead.stuck(8, 3, 1), 1);
        DUE.is("24: one page is all", dead.pages(8, 1), 1);
        none(dead, 8, 1, -1);
        ClickOrders never = DUE.of("on press 0{a=a+1;}place 1=2;");
        DUE.is("25: all nine", never.stuck(8, 3, 9), 9);
        DUE.is("25: eight are too few", never.stuck(8, 3, 8), -2);
        DUE.is("25: without place none", DUE.of("on press 0{a=a+1;}").stuck(8, 0, 9), 0);
        DUE.is("25: without place it may be spent all the same", DUE.of("on press 0{a=a+1;}").stuck(8, 0, 8), -2);
    }

    /** 25: pages that are reached on the way back; harm and place know no answer. */
    private static void wayBack() {
        ClickOrders back = DUE.of("on press 0{a=1;}on press 1{if a=1 a=0;}place a=0 and h=0;");
        for (int n = 1; n <= 8; n++) {
            DUE.is("25: back to the first page, by " + n, back.stuck(n, 1, 2), 0);
            DUE.is("25: not by none, by " + n, back.stuck(n, 0, 2), 1);
        }
        ClickOrders round = DUE.of("on press 0{a=a+1;if a=4 a=0;}place a=0;");
        int[] due = {3, 2, 1, 0};
        for (int m = 0; m <= 3; m++) {
            DUE.is("25: round to the first page by " + m, round.stuck(8, m, 4), due[m]);
            DUE.is("25: round from the last ones by " + m, round.stuck(3, m, 4), due[m]);
        }
        ClickOrders got = DUE.of("on start{ask 0 5;}on answer 0{a=1;}place got=5;harm got=5;");
        DUE.is("25: got is 0 for place", got.stuck(0, 1, 600), 1);
        DUE.is("25: so it is behind the answer", got.stuck(1, 0, 600), 2);
        DUE.is("25: and by more", got.stuck(1, 3, 600), 2);
        DUE.is("22: got is 0 for harm", got.worst(1, 600), -1);
        ClickOrders zero = DUE.of("on start{ask 0 5;}on answer 0{a=1;}place got=0;harm got=0;");
        DUE.is("25: got is 0", zero.stuck(1, 0, 600), 0);
        row(zero, 1, 600, 9);
    }

    /** Many pages with names from everywhere are kept apart. */
    private static void manyPages() {
        StringBuilder text = new StringBuilder();
        for (int k = 0; k < 8; k++) {
            text.append("on press ").append(k).append("{a=a*997*991+").append(k + 1).append(";b=a/7;}");
        }
        ClickOrders x = DUE.of(text.toString());
        DUE.is("24: 585", x.pages(3, 585), 585);
        DUE.is("24: 584 are too few", x.pages(3, 584), -2);
        DUE.is("24: 73", x.pages(2, 73), 73);
        Due.reads(x, text + "place b=1;");
        DUE.is("25: all but two of them are stuck", x.stuck(3, 0, 600), 583);
    }

    /** 25: hours go by with presses that do nothing, and so may be what is needed. */
    private static void stuckByHours() {
        ClickOrders x = DUE.of("on start{clock 0 5;clock 1 3;}on press 3{clock 2 4;}on clock 2{b=1;}place b=1;");
        DUE.is("25: two presses and the clock", x.stuck(0, 3, 1), 1);
        ClickOrders y = DUE.of("on start{clock 0 5;clock 1 3;}on press 3{clock 2 2;}on clock 2{b=1;}place b=1;");
        DUE.is("25: a press, and the clock has the fewest", y.stuck(0, 2, 1), 1);
        ClickOrders z = DUE.of("on start{clock 0 5;clock 1 3;}on press 3{clock 2 1;}on clock 2{b=1;}place b=1;");
        DUE.is("25: a press, and it comes first", z.stuck(0, 2, 1), 0);
        ClickOrders late = DUE.of("on start{clock 0 2;}on press 3{if c=0 clock 2 1;c=1;}on clock 2{b=1;}place b=1;");
        DUE.is("25: as the other has 1 hour, too, by two it does not", late.stuck(0, 2, 1), 1);
        DUE.is("25: by three", late.stuck(0, 3, 1), 0);
        ClickOrders first = DUE.of("on start{clock 0 3;}on press 3{if c=0 clock 2 1;c=1;}on clock 2{b=1;}place b=1;");
        DUE.is("25: as the other has 2", first.stuck(0, 2, 1), 0);
    }

    /**
     * 343 pages by 3 have far more behind them than can be kept, and get there by just one way: press 0 begins two clocks, a
     * press of nothing takes the one hour that the first of them has left, and that one comes. All else breaks e.
     */
    private static void hoursBeyondAll() {
        StringBuilder text = new StringBuilder("on press 0{if e=1 e=2;if e=0 if a>90 clock 2 1;if e=0 if a>90 clock 0 0;"
            + "if e=0 if a>90 e=1;a=a*9+1;}");
        for (int k = 1; k < 7; k++) {
            text.append("on press ").append(k).append("{if a>90 e=3;a=a*9+").append(k + 1).append(";}");
        }
        ClickOrders x = DUE.of(text + "on clock 2{if e=1 b=1;}on clock 0{e=4;}place b=1;");
        DUE.is("24: 1, 7, 49 and 343", x.pages(3, 600), 400);
        DUE.is("25: the last 343 get there by 3", x.stuck(3, 3, 600), 57);
        DUE.is("25: but not by 2", x.stuck(3, 2, 600), 400);
        DUE.is("25: the 49 do not by 3", x.stuck(2, 3, 600), 57);
    }

    /** 38: none ahead, or spent ahead; none behind, or spent behind. */
    private static void versions() {
        ClickOrders x = DUE.of("on press 0{a=a+1;}harm a=3;");
        DUE.is("38: without an old one", x.newer(3, 4), 3);
        DUE.is("38: by 2", x.newer(2, 600), -1);
        DUE.is("38: the new one is spent", x.newer(3, 3), -1);
        Due.reads(x, "on press 0{a=a+1;}harm a=2;");
        DUE.is("38: the old one by 3, the new one by 2", x.newer(2, 600), 2);
        DUE.is("38: by 3 both", x.newer(3, 600), -1);
        DUE.is("38: by 3 the old one is spent", x.newer(3, 3), 2);
        DUE.is("38: both are spent", x.newer(3, 2), -1);
        DUE.is("38: just enough for both", x.newer(3, 4), -1);
        DUE.is("38: by none", x.newer(0, 600), -1);
        Due.reads(x, "on start{fail;}");
        DUE.is("38: at the start", x.newer(0, 1), 0);
        DUE.is("38: the old one is spent by 8 and 2", x.newer(8, 2), 0);
        DUE.is("38: the old one by 2", x.newer(2, 600), -1);
        DUE.is("38: worst is of the new one", x.worst(2, 600), 0);
        DUE.is("38: the page is the new one's", x.failed(), true);
        Due.reads(x, "on press 0{fail;}");
        DUE.is("38: the old one by none", x.newer(1, 600), -1);
        DUE.is("38: a fault", Due.reads(x, "x"), -9);
        DUE.is("38: changes nothing", x.newer(1, 600), -1);
        Due.reads(x, "on press 0{fail;}");
        DUE.is("38: the same twice", x.newer(1, 600), -1);
        DUE.is("38: by none neither", x.newer(0, 600), -1);
        Due.reads(x, "");
        DUE.is("38: an empty one", x.newer(1, 600), -1);
        Due.reads(x, "on press 0{fail;}");
        DUE.is("38: behind an empty one", x.newer(1, 600), 1);
        DUE.throwing("38: program(1)", IllegalArgumentException.class, () -> x.program(1));
        DUE.is("38: a refused one changes nothing", x.newer(1, 600), 1);
    }

    public static void main(String[] args) {
        wrongNumbers();
        ofNone();
        lengths();
        order();
        sixHundred();
        spent();
        alike();
        alikeAgain();
        stuck();
        wayBack();
        manyPages();
        stuckByHours();
        hoursBeyondAll();
        versions();
        DUE.ends();
    }
}
