/** Promises 1 to 4 and 39: the new object, the tape, programs and their faults, counts. */
public final class ReadingTest {
    private static final Due DUE = new Due();

    private static void well(String text, int steps) {
        DUE.well(text, steps);
    }

    private static void bad(String text, int kind, int place) {
        DUE.bad(text, kind, place);
    }

    private static String times(String text, int times) {
        return text.repeat(times);
    }

    private static void aNewObject() {
        ClickOrders x = new ClickOrders();
        for (int k = 0; k < 8; k++) {
            DUE.is("count(" + k + ") of a new object", x.count(k), 0);
            DUE.is("name(" + k + ") of a new object", x.name(k), 0);
            DUE.is("thing(" + k + ") of a new object", x.thing(k), 1);
            DUE.is("can(" + k + ") of a new object", x.can(k), true);
        }
        DUE.is("count(8)", x.count(8), -1);
        DUE.is("count(-1)", x.count(-1), -1);
        DUE.is("fault() of a new object", x.fault(), -1);
        DUE.is("can(8) of a new object", x.can(8), false);
        DUE.is("failed() of a new object", x.failed(), false);
        DUE.is("spoilt() of a new object", x.spoilt(), false);
        DUE.is("worst of a new object", x.worst(8, 1), -1);
        DUE.is("pages of a new object", x.pages(8, 1), 1);
        DUE.is("windows() of a new object", x.windows(), 0);
        DUE.is("come(3) of a new object", x.come(3), 0);
    }

    private static void theTape() {
        ClickOrders x = new ClickOrders();
        for (int k = 1; k <= 30; k++) {
            DUE.is("feed number " + k, x.feed(0x20202020, 0x20202020, 0x20202020, 0x20202020, 0x20202020), 20 * k);
        }
        DUE.is("feed beyond 600", x.feed(0, 0, 0, 0, 0), -1);
        DUE.is("count(7) behind that", x.count(7), 600);
        DUE.throwing("program(601)", IllegalArgumentException.class, () -> x.program(601));
        DUE.throwing("program(-1)", IllegalArgumentException.class, () -> x.program(-1));
        DUE.is("the tape stays", x.count(7), 600);
        DUE.is("600 blanks", x.program(600), 0);
        DUE.is("the tape is empty then", x.count(7), 0);
        DUE.throwing("program(1) without a tape", IllegalArgumentException.class, () -> x.program(1));
        x.feed(-1, -1, -1, -1, -1);
        DUE.is("bytes of 255", x.program(3), -9);
        DUE.is("their place", x.fault(), 0);
        DUE.throwing("program(5) without a tape", IllegalArgumentException.class, () -> x.program(5));
        DUE.is("the fault stays with a throw", x.fault(), 0);
        x.feed(0x6F6E2070, 0x72657373, 0x20317B7D, 0x78787878, 0);
        DUE.is("the highest byte is first, and only n of them count", x.program(12), 0);
        DUE.is("its handler", x.count(1), 1);
    }

    private static void wellRead() {
        well("", 0);
        well("   ", 0);
        well("on start{}", 0);
        well("on start { } on press 0{}on press 7{}on clock 0{}on clock 3{}on answer 0{}on answer 3{} ", 0);
        well("on press1{show1;hide 2;grey3;live 4;clock 3 999;ask 2 1;stop 1;save 0 1;fail;}", 9);
        well("on start{a=1;}harm a=1;harm a>1;place a<1;place not[a=1];", 1);
        well("on start{if a<1b=2;}", 2);
        well("on start{if a<1 if b<1 if c<1 if d<1 if e<1 if f<1 fail;}", 7);
        well("on start{a=((((((1))))));}", 1);
        well("on start{a=(1)+(1)+(1)+(1)+(1)+(1)+(1)+(1);}", 1);
        well("on start{a=least(1,most(b,h))*got/far 3-000999;}", 1);
        well("on start{a=least(1,1)+least(1,1)+most(1,1)+most(1,1)+least(1,1)+most(1,1)+least(1,1);}", 1);
        well("harm not a=1 or not a=1 or not a=1 or not a=1 or not a=1 or not a=1 or not a=1;", 0);
        well("harm [a=1]or[a=1]or[a=1]or[a=1]or[a=1]or[a=1]or[a=1];", 0);
        well("on start{" + times("if a=1 fail;", 7) + "}", 14);
        well("harm not not not not not not a=1;", 0);
        well("harm [[[[[[a=1]]]]]] and not [b=1] or c=2;", 0);
        well("on start{" + times("fail;", 60) + "}", 60);
        well("on start{" + times("if a=1 fail;", 30) + "}", 60);
        ClickOrders x = DUE.of("on start{a=5;}on press 1{}on press 1 {}".substring(0, 26));
        DUE.is("count(1) of two handlers", x.count(1), 2);
    }

    private static void whatCannotStand() {
        bad("x", 1, 0);
        bad("  x", 1, 2);
        bad("on", 1, 2);
        bad("on ", 1, 3);
        bad("onstart{}", 1, 0);
        bad("on start", 1, 8);
        bad("on start}", 1, 8);
        bad("on starts{}", 1, 3);
        bad("on press {}", 1, 9);
        bad("on start{a=1;", 1, 13);
        bad("on start{a=1}", 1, 12);
        bad("on start{a 1;}", 1, 11);
        bad("on start{a=;}", 1, 11);
        bad("on start{a=-1;}", 1, 11);
        bad("on start{a=b c;}", 1, 13);
        bad("on start{a=bc;}", 1, 11);
        bad("on start{i=1;}", 1, 9);
        bad("on start{A=1;}", 1, 9);
        bad("on start{a=i;}", 1, 11);
        bad("on start{a=(1;}", 1, 13);
        bad("on start{a=least 1,2);}", 1, 17);
        bad("on start{a=most(1 2);}", 1, 18);
        bad("on start{ask 1;}", 1, 14);
        bad("on start{clock 1;}", 1, 16);
        bad("on start{clock 1 a;}", 1, 17);
        bad("on start{show a;}", 1, 14);
        bad("on start{fail 1;}", 1, 14);
        bad("on start{fails;}", 1, 9);
        bad("on start{if a b=1;}", 1, 14);
        bad("on start{if a<1;}", 1, 15);
        bad("on start{if [a<1 b=1;}", 1, 17);
        bad("on start{if (a<1) b=1;}", 1, 14);
        bad("on start{ifa<1 b=1;}", 1, 9);
        bad("harm a", 1, 6);
        bad("harm a=1", 1, 8);
        bad("harm a=1 b=1;", 1, 9);
        bad("harm a=1 orb=1;", 1, 9);
        bad("harm ;", 1, 5);
        bad("place a==1;", 1, 8);
        bad("on start{} }", 1, 11);
        bad("on start{}\u0000", 1, 10);
        bad("on start{\ta=1;}", 1, 9);
    }

    private static void numbersAndPlaces() {
        bad("on press 8{}", 2, 9);
        bad("on press 01{}", 2, 9);
        bad("on clock 4{}", 2, 9);
        bad("on answer 4{}", 2, 10);
        bad("on start{a=1000;}", 2, 11);
        bad("on start{a=0001000;}", 2, 11);
        bad("on start{a=99999999999999999999;}", 2, 11);
        bad("on start{show 8;}", 2, 14);
        bad("on start{live 10;}", 2, 14);
        bad("on start{clock 4 1;}", 2, 15);
        bad("on start{clock 12;}", 2, 15);
        bad("on start{clock 1 1000;}", 2, 17);
        bad("on start{ask 4 1;}", 2, 13);
        bad("on start{ask 05;}", 2, 13);
        bad("on start{stop 4;}", 2, 14);
        bad("on start{save 4 1;}", 2, 14);
        bad("on start{a=far 4;}", 2, 15);
    }

    private static void tooMany() {
        bad("on start{" + times("fail;", 60) + " fail;}", 3, 310);
        bad("on start{" + times("fail;", 60) + "a=1000;}", 3, 309);
        bad("on start{" + times("fail;", 60) + "x=1;}", 1, 309);
        bad("on start{" + times("if a=1 fail;", 29) + "fail;if a=1 fail;}", 3, 369);
        bad("on start{a=(((((((1)))))));}", 3, 17);
        bad("on start{a=((((((least(1,2)))))));}", 3, 22);
        bad("harm not not not not not not not a=1;", 3, 29);
        bad("harm [[[[[[[a=1]]]]]]];", 3, 11);
        bad("on start{if [not [ (a)<((b))]] if c=1 if d=1 if e=(1) if f=((1)) fail;}", 3, 60);
        well("on start{if [not [ (a)<((b))]] if c=1 if d=1 if e=(1) if f=(1) fail;}", 6);
        bad("on start{if a<1 if a<1 if a<1 if a<1 if a<1 if a<1 if a<1 fail;}", 3, 51);
        bad("on start{if a<1 if a<1 if a<1 if a<1 if a<1 if a<(1) fail;}", 3, 49);
    }

    private static void toldTwice() {
        bad("on start{} on start{}", 4, 11);
        bad("on press 1{}on press 2{}  on press 1 x", 4, 26);
        bad("on press 1{}on press 12{}", 2, 21);
        bad("on answer 0{}on clock 0{}on answer 0{}", 4, 25);
    }

    /** Bytes behind the first n are on the tape, but no part of the text. */
    private static void theFirstOnes() {
        String text = "on press 1{if not[a=1]and b=least(1,far 2)ask 1 got*12;}harm a=1;";
        for (int n = 0; n <= text.length(); n++) {
            ClickOrders whole = new ClickOrders();
            Due.feeds(whole, text);
            ClickOrders part = new ClickOrders();
            int steps = Due.reads(part, text.substring(0, n));
            DUE.is("program(" + n + ")", whole.program(n), steps);
            DUE.is("fault() behind program(" + n + ")", whole.fault(), part.fault());
            boolean isWell = n == 0 || n == 56 || n == text.length();
            DUE.is("program(" + n + ") is well read", steps >= 0, isWell);
            DUE.is("the fault of program(" + n + ") is its end", part.fault() == n || part.fault() >= 0 && isWord(text, n), !isWell);
        }
    }

    /** Whether the text is cut within a word, which is no word then. */
    private static boolean isWord(String text, int n) {
        return Character.isLowerCase(text.charAt(n - 1));
    }

    private static void begunAnew() {
        ClickOrders x = DUE.of("on start{a=7;save 0 3;}on press 0{b=b+1;}");
        x.come(0);
        x.comes(0, 0);
        Due.reads(x, "on start{fail;}}");
        DUE.is("a fault leaves the run", x.count(2), 1);
        DUE.is("a fault leaves the names", x.name(0), 7);
        DUE.is("a fault leaves the windows", x.shows(0, 1), 1);
        Due.reads(x, "on start{c=1;}");
        DUE.is("the run is begun anew", x.count(2), 0);
        DUE.is("with nothing of the old", x.name(0), 0);
        DUE.is("and the new start", x.name(2), 1);
        DUE.is("and far rows of 0", x.far(0), 0);
        DUE.is("the windows are begun anew", x.shows(0, 1), 0);
        DUE.is("with the new start", x.shows(1, 2), 1);
    }

    private static void counts() {
        ClickOrders x = DUE.of("on start{ask 0 1;ask 1 2;ask 2 3;ask 2 4;ask 3 2;clock 1 5;}on press 0{if a=0 a=1;}");
        x.come(1);
        x.form(1, 0, 0, 0);
        x.form(2, 0, 0, 0);
        x.tell(4);
        x.feed(0, 0, 0, 0, 0);
        int[] due = {8, 2, 1, 5, 1, 2, 1, 20, -1};
        for (int k = 0; k < due.length; k++) {
            DUE.is("count(" + k + ")", x.count(k), due[k]);
        }
    }

    public static void main(String[] args) {
        aNewObject();
        theTape();
        wellRead();
        whatCannotStand();
        numbersAndPlaces();
        tooMany();
        toldTwice();
        theFirstOnes();
        begunAnew();
        counts();
        DUE.ends();
    }
}
