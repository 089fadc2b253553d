/** Promises 34 to 37 at their edges: a word that is just lost and one that is just not, windows and names beside the last, lost by none to 3. */
public final class WindowEdgesTest {
    private static final Due DUE = new Due();
    private static final int[] FAR_OUT = {Integer.MIN_VALUE, -2, -1, 2, 3, Integer.MAX_VALUE};

    /** 35, 36: windows 0 and 1, codes 0 to 12, names 0 to 7; what is refused leaves all as it was. */
    private static void wrongOnes() {
        ClickOrders x = DUE.of("on start{h=3;ask 3 1;}on press 0{a=a+1;save 0 1;}on press 1{hide 2;}");
        DUE.is("35: comes(1, 12)", x.comes(1, 12), 0);
        DUE.is("35: comes(0, 1)", x.comes(0, 1), 0);
        String ahead = Due.all(x);
        for (int window : FAR_OUT) {
            DUE.throwing("35: comes(" + window + ", 0)", IllegalArgumentException.class, () -> x.comes(window, 0));
            DUE.throwing("35: comes(" + window + ", 8)", IllegalArgumentException.class, () -> x.comes(window, 8));
            DUE.throwing("35: comes(" + window + ", 13)", IllegalArgumentException.class, () -> x.comes(window, 13));
            DUE.throwing("36: shows(" + window + ", 0)", IllegalArgumentException.class, () -> x.shows(window, 0));
            DUE.throwing("36: shows(" + window + ", 7)", IllegalArgumentException.class, () -> x.shows(window, 7));
        }
        for (int k : new int[] {Integer.MIN_VALUE, -1, 8, 9, 13, Integer.MAX_VALUE}) {
            for (int window = 0; window < 2; window++) {
                int at = window;
                if (k < 0 || k > 12) {
                    DUE.throwing("35: comes(" + at + ", " + k + ")", IllegalArgumentException.class, () -> x.comes(at, k));
                }
                DUE.throwing("36: shows(" + at + ", " + k + ")", IndexOutOfBoundsException.class, () -> x.shows(at, k));
            }
        }
        DUE.is("35: a hidden thing", x.comes(0, 2), -1);
        DUE.is("35: the other's is there", x.comes(1, 2), 0);
        DUE.is("35: no clock", x.comes(0, 8), -1);
        DUE.is("35: no answer", x.comes(1, 12), -1);
        DUE.same("35, 36: wrong ones", Due.all(x), ahead);
        DUE.is("35: the other's answer", x.comes(0, 12), 0);
        DUE.is("36: shows(0, 7)", x.shows(0, 7), 3);
        DUE.is("36: shows(1, 7)", x.shows(1, 7), 3);
        ClickOrders y = DUE.of("on press 0{a=a+1;save 0 1;}");
        y.comes(0, 0);
        ahead = Due.all(y);
        for (int n : new int[] {Integer.MIN_VALUE, -1, 4, 5, Integer.MAX_VALUE}) {
            DUE.throwing("37: lost(" + n + ")", IllegalArgumentException.class, () -> y.lost(n));
        }
        DUE.same("37: wrong ones", Due.all(y), ahead);
    }

    /** 35: more than forty happenings may come to a window. */
    private static void many() {
        ClickOrders x = DUE.of("on press 0{a=a+1;save 0 a;}");
        for (int k = 1; k <= 100; k++) {
            DUE.is("35: happening " + k, x.comes(k % 2, 0), k - 1);
        }
        DUE.is("36: fifty", x.shows(0, 0) + x.shows(1, 0), 100);
        DUE.is("34: words lost", x.windows(), 99);
        DUE.is("34: begun anew", x.shows(0, 0) + x.shows(1, 0), 0);
        DUE.is("35: nothing is lost by the first", x.comes(1, 0), 0);
        DUE.is("34: nor since", x.windows(), 0);
    }

    private static void lost(String told, String text, int due, int... comes) {
        ClickOrders x = DUE.of(text);
        int got = -5;
        for (int k : comes) {
            got = x.comes(k / 100, k % 100);
        }
        DUE.is("35: " + told, got, due);
        DUE.is("34: " + told, x.windows(), due);
    }

    /** Just lost: the other one saved last, and this one has not asked since. Comes of 0 to 12 are window 0's, 100 to 112 window 1's. */
    private static void losing() {
        String text = "on press 0{save 0 1;}on press 1{a=far 0;}on press 2{save 0 far 0+1;}on press 3{save 1 1;}on press 4{a=far 1;}"
            + "on press 5{if far 0=7 b=1;}on press 6{if 1=1 or far 0=1 b=1;}on press 7{save 0 1;a=far 0;}on start{h=8;}";
        lost("nobody saved", text, 0, 0);
        lost("itself saved last", text, 0, 0, 0);
        lost("the other one saved last", text, 1, 0, 100);
        lost("so for window 0", text, 1, 100, 0);
        lost("it asked since", text, 0, 0, 101, 100);
        lost("the other one asked", text, 1, 0, 1, 100);
        lost("it asked ahead of that", text, 1, 101, 0, 100);
        lost("it asked for another row", text, 1, 0, 104, 100);
        lost("it asked in the save", text, 0, 0, 102);
        lost("it asked in a condition", text, 0, 0, 105, 100);
        lost("both sides are worked", text, 0, 0, 106, 100);
        lost("it asked behind the save", text, 1, 0, 107);
        lost("another row", text, 0, 0, 103);
        lost("the other one saved ahead of its own", text, 1, 0, 100, 100);
        lost("each of the other", text, 3, 0, 100, 0, 100);
        lost("it asked, the other saved again", text, 1, 0, 101, 0, 100);
        lost("it asked once for two saves", text, 0, 0, 0, 101, 100);
        lost("and saved twice then", text, 0, 0, 101, 100, 100);
        lost("two rows", text, 2, 0, 3, 100, 103);
        lost("one of two rows was asked for", text, 1, 0, 3, 104, 100, 103);
        lost("its own was asked for by the other", text, 0, 0, 101, 0);
    }

    /** Saves and questions that are not worked are none; several in one handler are several. */
    private static void losingWithin() {
        lost("a save that is not done", "on press 0{save 0 1;}on press 1{if a=1 save 0 2;}", 0, 0, 101);
        lost("a question that is not worked", "on press 0{save 0 1;}on press 1{if a=1 b=far 0;save 0 2;}", 1, 0, 101);
        lost("a question behind a failure", "on press 0{save 0 1;}on press 1{fail;b=far 0;}", 1, 0, 101, 100);
        lost("twice in one handler", "on press 0{save 0 1;}on press 1{save 0 2;save 0 3;}", 1, 0, 101);
        lost("four rows in one handler", "on press 0{save 0 1;save 1 1;save 2 1;save 3 1;}", 4, 0, 100);
        lost("what an answer saves", "on start{ask 3 1;}on answer 3{save 3 got;}", 1, 12, 112);
        lost("what a clock saves", "on start{clock 3 1;}on clock 3{save 3 got;}", 1, 8, 108);
        lost("what a press asks for an answer", "on press 0{ask 0 far 0;}on answer 0{save 0 got+1;}on press 1{save 0 7;}", 0, 0, 101, 100,
            109, 9 - 9);
        lost("harm and place ask for none", "on press 0{save 0 1;}harm far 0=1;place far 0=1;", 1, 0, 100);
        ClickOrders x = DUE.of("on press 0{save 0 1;}harm far 0=1;place far 0=1;");
        x.comes(0, 0);
        x.worst(2, 600);
        x.stuck(2, 1, 600);
        x.spoilt();
        x.come(0);
        x.lost(3);
        DUE.is("35: what else is asked between is no matter", x.comes(1, 0), 1);
    }

    /** 34, 35: their starts count, 0 first; 34 tells what was lost ahead of it, starts with it. */
    private static void starts() {
        ClickOrders x = DUE.of("on start{save 0 1;save 3 far 3+1;a=far 3;}on press 1{b=far 3;}");
        DUE.is("36: 0 was first", x.shows(0, 0), 1);
        DUE.is("36: 1 came behind it", x.shows(1, 0), 2);
        DUE.is("35: the start of 1 lost one", x.comes(0, 0), 1);
        DUE.is("36: rows are the same", x.comes(0, 1), 1);
        DUE.is("36: what 1 saved", x.shows(0, 1), 2);
        DUE.is("34: windows()", x.windows(), 1);
        DUE.is("36: rows are 0 at first", x.shows(1, 0), 2);
        DUE.is("34: windows() again", x.windows(), 1);
        DUE.is("10: the run has rows of its own", x.far(3), 1);
        ClickOrders fail = DUE.of("on start{if far 0=1 fail;save 0 1;a=1;}");
        DUE.is("36: 0 did not fail", fail.shows(0, 0), 1);
        DUE.is("36: 1 did", fail.shows(1, 0), 0);
        ClickOrders things = DUE.of("on start{if far 0=0 hide 5;save 0 far 0+1;}");
        DUE.is("35: hidden in 0", things.comes(0, 5), -1);
        DUE.is("35: not in 1", things.comes(1, 5), 0);
        ClickOrders hours = DUE.of("on start{clock 0 1;clock 1 0;}on clock 0{a=1;}on clock 1{a=2;}on press 0{a=3;}");
        hours.comes(0, 7);
        hours.comes(0, 8);
        DUE.is("36: hours are the window's own", hours.shows(0, 0), 1);
        hours.comes(1, 8);
        DUE.is("36: the other's went on", hours.shows(1, 0), 2);
    }

    /** 37: by none, one, two and three, and just not by one less; the windows themselves stay as they are. */
    private static void fewest(String text, int due) {
        ClickOrders x = DUE.of(text);
        for (int n = 3; n >= 0; n--) {
            DUE.is("37: lost(" + n + ") of " + text, x.lost(n), due < 0 || n < due ? -1 : due);
        }
        for (int n = 0; n <= 3; n++) {
            DUE.is("37: lost(" + n + ") again", x.lost(n), due < 0 || n < due ? -1 : due);
        }
        ClickOrders y = DUE.of(text);
        for (int n = 0; n <= 3; n++) {
            DUE.is("37: lost(" + n + ") from 0 on", y.lost(n), due < 0 || n < due ? -1 : due);
        }
    }

    private static void fewestOnes() {
        fewest("", -1);
        fewest("on start{save 0 1;}", 0);
        fewest("on start{save 0 far 0;}", -1);
        fewest("on start{if far 1=0 save 0 1;save 1 far 1+1;}on press 3{save 0 2;}", 1);
        fewest("on start{if far 1=1 save 0 1;save 1 far 1+1;}on press 3{save 0 2;}", 1);
        fewest("on press 7{save 3 1;}", 2);
        fewest("on press 7{save 3 far 3;}", -1);
        fewest("on start{ask 3 1;}on answer 3{save 2 1;}", 2);
        fewest("on start{clock 3 1;}on clock 3{save 2 1;}", 2);
        fewest("on press 0{a=1;}on press 1{if a=1 save 0 1;}on press 2{save 0 2;}", 2);
        fewest("on press 0{a=1;}on press 1{if a=1 save 0 1;}on press 2{save 0 far 0;}", 3);
        fewest("on press 0{a=a+1;}on press 1{if a>1 save 0 1;}on press 2{save 0 far 0;}", -1);
        fewest("on press 0{a=1;}on press 1{if a=1 save 0 1;}", -1);
        fewest("on start{hide 1;}on press 0{show 1;}on press 1{save 0 1;}on press 2{save 0 far 0+1;}", 3);
        // two presses that do nothing but take hours let the clock that was begun first come first
        fewest("on start{clock 0 2;clock 1 1;save 0 far 0;}on clock 0{save 0 1;}on clock 1{a=far 0;}", 3);
        fewest("on start{clock 0 3;clock 1 1;save 0 far 0;}on clock 0{save 0 1;}on clock 1{a=far 0;}", -1);
        fewest("on start{clock 0 1;clock 1 1;}on clock 1{save 0 1;}on press 5{save 0 far 0;}", 3);
        // window 1 alone can lose a word, behind a press that shows it the thing
        String alone = "on start{if far 1=1 g=1;save 1 far 1+1;hide 3;}on press 0{if g=1 show 3;}on press 3{save 0 1;}";
        fewest(alone + "on press 2{if g=0 save 0 far 0;}", 3);
        fewest(alone + "on press 2{if g=0 if a=1 save 0 far 0;a=1;}", -1);
        fewest(alone.replace("if g=1 show", "if g=1 if far 2=1 show") + "on press 2{if g=0 save 0 far 0;if g=0 save 2 far 2+1;}", 3);
        fewest(alone.replace("if g=1 show", "if g=0 show") + "on press 2{if g=1 save 0 far 0;}", 3);
        // an hour that goes by with a press of nothing lets the clock of the start come ahead of that of press 0
        String hours = "save 0 far 0;}on press 0{a=1;hide 0;clock 1 0;}on clock 0{if a=1 save 0 1;}on clock 1{b=far 0;}";
        fewest("on start{clock 0 1;" + hours, 2);
        fewest("on start{clock 0 2;" + hours, 3);
        fewest("on start{clock 0 3;" + hours, -1);
        ClickOrders x = DUE.of("on press 7{save 3 1;}");
        x.comes(0, 7);
        DUE.is("37: by windows begun, whatever came to these", x.lost(1), -1);
        DUE.is("37: by two", x.lost(3), 2);
        DUE.is("35: these go on", x.comes(1, 7), 1);
        DUE.is("34: and lost one", x.windows(), 1);
        ClickOrders hidden = DUE.of("on press 6{hide 7;}on press 7{save 3 1;}");
        hidden.comes(0, 6);
        hidden.comes(1, 6);
        DUE.is("37: though these can't any more", hidden.lost(3), 2);
        DUE.is("35: they can't yet", hidden.comes(1, 7), -1);
    }

    /** Forms count in windows, too, and what lost(n) told ahead of them counts no more. */
    private static void forms() {
        ClickOrders x = DUE.of("on start{ask 0 1;ask 0 2;}on answer 0{save 0 1;}on press 4{save 1 1;}");
        DUE.is("37: by two", x.lost(3), 2);
        x.form(1, 0, 0, 0);
        x.form(0, 4, 0, 0);
        x.use(1, true);
        DUE.is("35: barred", x.comes(0, 4), -1);
        DUE.is("37: still by two", x.lost(3), 2);
        x.use(0, true);
        DUE.is("37: with both not by three", x.lost(3), -1);
        DUE.is("35: unheard", x.comes(0, 9), 0);
        DUE.is("35: heard", x.comes(0, 9), 0);
        DUE.is("35: not barred any more", x.comes(0, 4), 0);
        DUE.is("35: unheard by 1", x.comes(1, 9), 0);
        DUE.is("35: barred in 1 yet", x.comes(1, 4), -1);
        DUE.is("35: heard by 1", x.comes(1, 9), 1);
        x.use(1, false);
        DUE.is("37: without the bar", x.lost(3), 2);
        Due.reads(x, "on press 4{save 1 far 1;}");
        DUE.is("37: of another program", x.lost(3), -1);
    }

    public static void main(String[] args) {
        wrongOnes();
        many();
        losing();
        losingWithin();
        starts();
        fewestOnes();
        forms();
        DUE.ends();
    }
}
