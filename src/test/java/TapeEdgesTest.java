import java.util.NoSuchElementException;

/** Promises 1 to 4 and 39 at their edges: the new object, the tape empty and full, what a program() leaves and what not. */
public final class TapeEdgesTest {
    private static final Due DUE = new Due();
    private static final int[] FAR_OUT = {Integer.MIN_VALUE, Integer.MIN_VALUE + 1, -600, -2, Integer.MAX_VALUE - 1, Integer.MAX_VALUE};

    /** 1: a program without anything, and a run that was begun: nothing happened, nothing is to come. */
    private static void aNewObject() {
        ClickOrders x = new ClickOrders();
        for (int line = 0; line < 4; line++) {
            DUE.is("1: far(" + line + ")", x.far(line), 0);
            DUE.is("1: line(" + line + ", NONE)", x.line(line, -1), 0);
            DUE.is("1: line(" + line + ", 0)", x.line(line, 0), Integer.MIN_VALUE);
        }
        for (int code = 0; code < 13; code++) {
            DUE.is("1: can(" + code + ")", x.can(code), code < 8);
        }
        DUE.is("1: clock(NONE)", x.clock(-1), 0);
        DUE.is("1: clock(0)", x.clock(0), -1);
        DUE.throwing("1: happening(0, 0)", NoSuchElementException.class, () -> x.happening(0, 0));
        DUE.throwing("1: ordered(0, 0)", NoSuchElementException.class, () -> x.ordered(0, 0));
        DUE.throwing("1: why(0, 0)", NoSuchElementException.class, () -> x.why(0, 0));
        DUE.throwing("1: turn(0, 0)", NoSuchElementException.class, () -> x.turn(0, 0));
        DUE.is("1: crossings()", x.crossings(), 0);
        DUE.is("1: crossing(0)", x.crossing(0), -1);
        for (int sort = 0; sort < 5; sort++) {
            DUE.is("1: sorts(" + sort + ")", x.sorts(sort), 0);
        }
        for (int n = 0; n <= 8; n++) {
            DUE.is("1: worst(" + n + ", 1)", x.worst(n, 1), -1);
            DUE.is("1: step(" + n + ", 1, 0)", x.step(n, 1, 0), -1);
            DUE.is("1: pages(" + n + ", 1)", x.pages(n, 1), 1);
            DUE.is("1: stuck(" + n + ", 0, 1)", x.stuck(n, 0, 1), 0);
            DUE.is("1: newer(" + n + ", 1)", x.newer(n, 1), -1);
        }
        DUE.is("1: told(0)", x.told(0), -1);
        DUE.is("1: record()", x.record(), -1);
        DUE.is("1: cut()", x.cut(), -1);
        DUE.is("1: clear()", x.clear(), 0);
        DUE.throwing("1: use(0)", IndexOutOfBoundsException.class, () -> x.use(0, false));
        DUE.is("1: cheapest", x.cheapest(8, 3, 1, 0), 0);
        DUE.is("1: its price", x.cheapest(8, 3, 1, 1), 0);
        DUE.is("1: shows(0, 7)", x.shows(0, 7), 0);
        DUE.is("1: shows(1, 0)", x.shows(1, 0), 0);
        DUE.is("1: lost(3)", x.lost(3), -1);
        DUE.is("1: both windows were begun", x.comes(0, 7) + x.comes(1, 0), 0);
        DUE.is("1: windows()", x.windows(), 0);
        DUE.is("1: begin()", x.begin(), 0);
        DUE.is("1: program(0)", x.program(0), 0);
    }

    private static void feeds(ClickOrders x, int times, int number) {
        for (int k = 0; k < times; k++) {
            x.feed(number, number, number, number, number);
        }
    }

    /** 2: twenty bytes more each time; the thirtieth is the last. */
    private static void theTapeFills() {
        ClickOrders x = new ClickOrders();
        for (int k = 1; k <= 30; k++) {
            DUE.is("2: feed number " + k, x.feed(0x20202020, 0x20202020, 0x20202020, 0x20202020, 0x20202020), 20 * k);
            DUE.is("2: count(7) then", x.count(7), 20 * k);
        }
        DUE.is("2: the 31st", x.feed(0x78787878, 0x78787878, 0x78787878, 0x78787878, 0x78787878), -1);
        DUE.is("2: the 32nd", x.feed(0, 0, 0, 0, 0), -1);
        DUE.is("2: it does nothing", x.count(7), 600);
        DUE.is("2: nor is a byte otherwise", x.program(600), 0);
        DUE.is("2: feed behind a program", x.feed(0x78787878, 0x78787878, 0x78787878, 0x78787878, 0x78787878), 20);
    }

    /** 2: a text of all 600 bytes, of which the first and the last count, stays as it is when a feed is refused. */
    private static void aFullText() {
        String text = "on press 7{h=h+1;" + " ".repeat(582) + "}";
        DUE.is("2: the text has 600 bytes", text.length(), 600);
        ClickOrders x = new ClickOrders();
        Due.feeds(x, text);
        String ahead = Due.all(x);
        DUE.is("2: a feed beyond", x.feed(-1, -1, -1, -1, -1), -1);
        DUE.same("2: a feed beyond", Due.all(x), ahead);
        DUE.is("3: all 600 bytes", x.program(600), 1);
        DUE.is("3: the handler", x.come(7), 0);
        DUE.is("3: is the text's", x.name(7), 1);
        Due.feeds(x, text);
        DUE.is("3: 599 of them", x.program(599), -9);
        DUE.is("4: end too early", x.fault(), 599);
    }

    /** 2: of each number the highest byte first, and numbers below 0 are bytes above 127. */
    private static void theOrderOfBytes() {
        int[] place = new int[20];
        for (int k = 0; k < 20; k++) {
            ClickOrders x = new ClickOrders();
            int[] n = {0x20202020, 0x20202020, 0x20202020, 0x20202020, 0x20202020};
            n[k / 4] ^= 0x80 << 24 - k % 4 * 8;
            x.feed(n[0], n[1], n[2], n[3], n[4]);
            place[k] = x.program(20) == -9 ? x.fault() : -5;
            DUE.is("2: byte " + k, place[k], k);
        }
        ClickOrders x = new ClickOrders();
        x.feed(0x6F6E2073, 0x74617274, 0x7B613D31, 0x3B623D32, 0x3B7D2020);
        DUE.is("2: 'on start{a=1;b=2;}'", x.program(20), 2);
        DUE.is("2: a", x.name(0), 1);
        DUE.is("2: b", x.name(1), 2);
    }

    /** 3: n is 0 to the tape's bytes; what is refused leaves the tape, and it can be read behind that. */
    private static void howManyBytes() {
        ClickOrders x = DUE.of("on start{a=3;ask 0 1;clock 1 2;}on press 2{b=1;}");
        DUE.comes(x, 2, 9);
        x.tell(4);
        x.comes(0, 2);
        DUE.refused(x, "3: program(1) of an empty tape", IllegalArgumentException.class, () -> x.program(1));
        x.feed(0x6F6E2073, 0x74617274, 0x7B613D31, 0x3B7D2020, 0x20202020);
        DUE.refused(x, "3: program(21)", IllegalArgumentException.class, () -> x.program(21));
        for (int n : FAR_OUT) {
            DUE.throwing("3: program(" + n + ")", IllegalArgumentException.class, () -> x.program(n));
        }
        DUE.throwing("3: program(-1)", IllegalArgumentException.class, () -> x.program(-1));
        DUE.is("3: it stays", x.count(7), 20);
        DUE.is("3: the run, too", x.count(2), 2);
        DUE.is("3: program(20)", x.program(20), 1);
        DUE.is("3: empty then", x.count(7), 0);
        x.feed(0x78787878, 0x78787878, 0x78787878, 0x78787878, 0x78787878);
        x.feed(0x78787878, 0x78787878, 0x78787878, 0x78787878, 0x78787878);
        DUE.is("3: none of 40 bytes", x.program(0), 0);
        DUE.is("3: empty then, too", x.count(7), 0);
        DUE.is("3: the program is empty", x.count(1), 0);
        DUE.throwing("3: program(1) then", IllegalArgumentException.class, () -> x.program(1));
        DUE.is("3: program(0) of an empty tape", x.program(0), 0);
    }

    /** 3: with a fault the program stays, and the run, the windows, the old program with it; the tape is empty then. */
    private static void aFault() {
        ClickOrders x = DUE.of("on press 0{fail;}");
        Due.reads(x, "on start{a=3;ask 0 1;clock 1 2;}on press 2{save 0 1;}harm a=4;place a=3;");
        DUE.comes(x, 2, 9);
        x.tell(4);
        x.form(0, 1, 0, 1);
        x.use(0, true);
        DUE.is("3: window 0 saves", x.comes(0, 2), 0);
        String ahead = Due.all(x);
        String[] texts = {"x", "on start{a=9;}x", "on press 8{}", "on start{}on start{}", "harm [[[[[[[", "on start{" + "fail;".repeat(61)};
        int[] kinds = {1, 1, 2, 4, 3, 3};
        int[] places = {0, 14, 9, 10, 11, 309};
        for (int k = 0; k < texts.length; k++) {
            DUE.is("3: program '" + texts[k] + "'", Due.reads(x, texts[k]), kinds[k] - 10);
            DUE.is("4: its fault", x.fault(), places[k]);
            DUE.is("3: the tape is empty", x.count(7), 0);
        }
        DUE.same("3: a fault", Due.all(x).replace("false309 ", "false-1 "), ahead);
        DUE.is("3: the windows go on", x.comes(1, 2), 1);
        DUE.is("3: the old one stays", x.newer(1, 600), -1);
        DUE.is("3: the form is on", x.use(0, true), true);
        DUE.is("3: the run had two", x.begin(), 2);
    }

    /** 3: well read, the run and both windows are begun anew; the told row, the forms and what is on stay. */
    private static void wellRead() {
        ClickOrders x = DUE.of("on start{a=3;hide 4;ask 0 1;clock 1 2;}on press 2{save 0 1;b=5;}on press 3{fail;}");
        DUE.comes(x, 2, 3);
        x.comes(0, 2);
        x.comes(1, 2);
        x.tell(4);
        x.form(0, 1, 0, 1);
        x.use(0, true);
        DUE.is("3: well read", Due.reads(x, "on press 2{save 0 1;}"), 1);
        DUE.is("3: no happenings", x.count(2), 0);
        DUE.is("3: names", x.name(0) + x.name(1), 0);
        DUE.is("3: things", x.thing(4), 1);
        DUE.is("3: far rows", x.far(0), 0);
        DUE.is("3: nothing is to come", x.count(3) + x.count(4), 0);
        DUE.is("3: not failed", x.failed(), false);
        DUE.is("3: windows' names", x.shows(0, 1) + x.shows(1, 1), 0);
        DUE.is("3: no word was lost", x.windows(), 0);
        DUE.is("3: the told row stays", x.told(0), 4);
        DUE.is("3: the forms stay", x.count(5), 1);
        DUE.is("3: and what is on", x.use(0, true), true);
        x.comes(0, 2);
        DUE.is("3: a word is lost", x.comes(1, 2), 1);
        DUE.is("3: well read again", Due.reads(x, "on start{save 3 1;}"), 1);
        DUE.is("3: of the new start alone", x.windows(), 1);
    }

    /** 3: one program after the other on one object, each as if it were the first. */
    private static void manyPrograms() {
        ClickOrders x = new ClickOrders();
        for (int k = 1; k <= 9; k++) {
            DUE.is("3: program " + k, Due.reads(x, "on press 0{" + "a=a+1;".repeat(k) + "}harm a=" + k + ";place b=0;"), k);
            DUE.is("39: its steps", x.count(0), k);
            DUE.is("39: its handlers", x.count(1), 1);
            DUE.is("3: its handler", x.come(0), 0);
            DUE.is("3: what it does", x.name(0), k);
            DUE.is("3: its harm", x.spoilt(), true);
            DUE.is("3: a fault " + k, Due.reads(x, "on press 0{b=1;}on press 1{fail;}harm b=0;place b=1;on"), -9);
            DUE.is("3: it stays", x.spoilt(), true);
            DUE.is("3: one without harm and place " + k, Due.reads(x, "on press " + k % 8 + "{}on clock 0{}"), 0);
            DUE.is("39: its steps", x.count(0), 0);
            DUE.is("39: its handlers", x.count(1), 2);
            DUE.is("3: nothing is spoilt", x.spoilt(), false);
            DUE.is("3: nothing is stuck", x.stuck(0, 0, 1), 0);
            DUE.is("3: nothing is done", x.come(0), 0);
            DUE.is("3: names", x.name(0), 0);
        }
    }

    /** 3: programs of nearly 600 bytes, each of as many parts as there can be, one after the other. */
    private static void longPrograms() {
        ClickOrders x = new ClickOrders();
        for (int k = 1; k <= 12; k++) {
            String text = "on press 0{a=" + "a+1+".repeat(144 - k) + k + ";}";
            DUE.is("3: long program " + k, Due.reads(x, text), 1);
            DUE.comes(x, 0);
            DUE.is("8: what it adds", x.name(0), 144);
        }
        ClickOrders y = new ClickOrders();
        String sum = "a" + "+a".repeat(200) + "+1";
        for (int k = 0; k < 9; k++) {
            DUE.is("3: long harm " + k, Due.reads(y, "harm " + sum + "=1;"), 0);
            DUE.is("14: it holds", y.spoilt(), true);
        }
    }

    /** 4: the latest program() counts; NONE without. */
    private static void faults() {
        ClickOrders x = new ClickOrders();
        DUE.is("4: without any", x.fault(), -1);
        Due.reads(x, "x");
        DUE.is("4: at 0", x.fault(), 0);
        Due.reads(x, "on start{");
        DUE.is("4: at the length", x.fault(), 9);
        DUE.throwing("4: refused", IllegalArgumentException.class, () -> x.program(1));
        DUE.is("4: what was refused read none", x.fault(), 9);
        x.feed(0, 0, 0, 0, 0);
        DUE.is("4: a feed leaves it", x.fault(), 9);
        DUE.is("4: well read", x.program(0), 0);
        DUE.is("4: NONE", x.fault(), -1);
        DUE.throwing("4: refused again", IllegalArgumentException.class, () -> x.program(-1));
        DUE.is("4: NONE still", x.fault(), -1);
    }

    /** 39: each what from none to all there can be; NONE for others. */
    private static void counts() {
        ClickOrders x = new ClickOrders();
        for (int what : FAR_OUT) {
            DUE.is("39: count(" + what + ")", x.count(what), -1);
        }
        DUE.is("39: count(-1)", x.count(-1), -1);
        DUE.is("39: count(8)", x.count(8), -1);
        StringBuilder text = new StringBuilder("on start{");
        for (int line = 0; line < 4; line++) {
            text.append(("ask " + line + " 1;").repeat(3));
        }
        text.append("clock 0 9;".repeat(3)).append("}on press 0{").append("a=1;".repeat(45)).append('}');
        Due.reads(x, text.toString());
        for (int k = 0; k < 40; k++) {
            x.come(1);
            x.tell(1);
        }
        for (int k = 0; k < 6; k++) {
            x.form(1, 0, 0, 0);
        }
        feeds(x, 30, 0);
        x.come(1);
        x.tell(1);
        x.form(1, 0, 0, 0);
        x.feed(0, 0, 0, 0, 0);
        int[] most = {60, 2, 40, 12, 3, 6, 40, 600};
        for (int what = 0; what < 8; what++) {
            DUE.is("39: count(" + what + ") of the most", x.count(what), most[what]);
        }
        for (int line = 0; line < 4; line++) {
            DUE.is("39: line(" + line + ", NONE)", x.line(line, -1), 3);
        }
        x.begin();
        DUE.comes(x, 9, 10, 11, 12, 12, 8);
        DUE.is("39: answers to come", x.count(3), 7);
        DUE.is("39: clocks to come", x.count(4), 2);
        DUE.is("39: happenings", x.count(2), 6);
        x.clear();
        DUE.is("39: codes told", x.count(6), 0);
        x.program(0);
        for (int what = 0; what < 8; what++) {
            DUE.is("39: count(" + what + ") behind an empty program", x.count(what), what == 5 ? 6 : 0);
        }
        DUE.is("39: a handler without a step", DUE.of("on clock 3{}").count(1), 1);
        DUE.is("39: is none with", DUE.of("on clock 3{}").count(0), 0);
        DUE.is("39: harm and place are no handlers", DUE.of("harm a=1;place a=1;").count(1), 0);
    }

    public static void main(String[] args) {
        aNewObject();
        theTapeFills();
        aFullText();
        theOrderOfBytes();
        howManyBytes();
        aFault();
        wellRead();
        manyPrograms();
        longPrograms();
        faults();
        counts();
        DUE.ends();
    }
}
