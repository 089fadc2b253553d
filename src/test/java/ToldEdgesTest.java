/** Promises 26 to 30 at their edges: the told row empty and full, records to the first that can not come, what can just not be cut. */
public final class ToldEdgesTest {
    private static final Due DUE = new Due();
    private static final int[] FAR_OUT = {Integer.MIN_VALUE, -2, -1, 13, 14, 40, Integer.MAX_VALUE};

    private static void tells(ClickOrders x, int... codes) {
        x.clear();
        for (int k = 0; k < codes.length; k++) {
            DUE.is("26: tell(" + codes[k] + ")", x.tell(codes[k]), k + 1);
        }
    }

    private static void row(ClickOrders x, int... due) {
        DUE.is("39: count(6)", x.count(6), due.length);
        for (int k = 0; k < due.length; k++) {
            DUE.is("30: told(" + k + ")", x.told(k), due[k]);
        }
        for (int k : new int[] {Integer.MIN_VALUE, -2, -1, due.length, due.length + 1, 40, 41, Integer.MAX_VALUE}) {
            DUE.is("30: told(" + k + ")", x.told(k), -1);
        }
    }

    /** 26, 27, 30: from none to 40 and back; what is refused leaves the row. */
    private static void telling() {
        ClickOrders x = DUE.of("on press 0{a=1;}");
        row(x);
        DUE.is("27: clear() of none", x.clear(), 0);
        for (int code = 0; code < 13; code++) {
            DUE.is("26: tell(" + code + ")", x.tell(code), code + 1);
        }
        row(x, 0, 1, 2, 3, 4, 5, 6, 7, 8, 9, 10, 11, 12);
        for (int code : FAR_OUT) {
            DUE.throwing("26: tell(" + code + ")", IllegalArgumentException.class, () -> x.tell(code));
        }
        row(x, 0, 1, 2, 3, 4, 5, 6, 7, 8, 9, 10, 11, 12);
        DUE.is("27: clear()", x.clear(), 13);
        DUE.is("27: clear() again", x.clear(), 0);
        row(x);
        int[] all = new int[40];
        for (int k = 0; k < 40; k++) {
            all[k] = k * 7 % 13;
            DUE.is("26: tell number " + k, x.tell(all[k]), k + 1);
        }
        String ahead = Due.all(x);
        DUE.is("26: it has 40", x.tell(5), -1);
        DUE.is("26: it has 40 still", x.tell(12), -1);
        DUE.throwing("26: no code", IllegalArgumentException.class, () -> x.tell(13));
        DUE.same("26: a 41st", Due.all(x), ahead);
        row(x, all);
        DUE.is("27: clear() of 40", x.clear(), 40);
        row(x);
        DUE.is("26: tell anew", x.tell(12), 1);
        row(x, 12);
        DUE.is("7: the run is beside it", x.come(0), 0);
        DUE.is("5: begin() leaves it", x.begin(), 1);
        row(x, 12);
        Due.reads(x, "on press 1{}");
        row(x, 12);
        x.windows();
        row(x, 12);
    }

    /** 28: none told, all come, the first that can not, the last that can not; forty of them. */
    private static void records() {
        ClickOrders x = DUE.of("on press 0{hide 0;ask 2 1;}on answer 2{clock 0 0;}on clock 0{show 0;}");
        DUE.is("28: an empty one", x.record(), -1);
        tells(x, 8);
        DUE.is("28: the first", x.record(), 0);
        tells(x, 0, 11, 8, 0);
        DUE.is("28: all come", x.record(), -1);
        tells(x, 0, 11, 8, 0, 0);
        DUE.is("28: the last", x.record(), 4);
        tells(x, 0, 0, 8, 9);
        DUE.is("28: the first of more", x.record(), 1);
        row(x, 0, 0, 8, 9);
        String ahead = Due.all(x);
        DUE.is("28: again", x.record(), 1);
        DUE.same("28: a record", Due.all(x), ahead);
        x.clear();
        for (int k = 0; k < 39; k++) {
            x.tell(5);
        }
        x.tell(5);
        DUE.is("28: forty come", x.record(), -1);
        x.clear();
        for (int k = 0; k < 39; k++) {
            x.tell(5);
        }
        x.tell(12);
        DUE.is("28: the fortieth can not", x.record(), 39);
        DUE.comes(x, 0);
        tells(x, 0);
        DUE.is("28: from a begun page, though the run's thing is hidden", x.record(), -1);
        tells(x, 11);
        DUE.is("28: nor is the run's answer to come", x.record(), 0);
        tells(x, 0, 0);
        Due.reads(x, "on press 0{}");
        DUE.is("28: by the program there is", x.record(), -1);
        tells(x, 0, 7);
        Due.reads(x, "on start{fail;}on press 0{ask 0 1;}");
        x.form(0, 7, 0, 1);
        DUE.is("28: a failure is no matter", x.record(), -1);
        x.use(0, true);
        DUE.is("28: a form is", x.record(), 1);
    }

    /** 29: what does not spoil at its end stays, whatever was on the way. */
    private static void notSpoilt() {
        ClickOrders x = DUE.of("on press 0{a=1;}on press 1{a=0;}on press 2{ask 0 1;}harm a=1;");
        DUE.is("29: an empty one", x.cut(), -1);
        tells(x, 0, 1);
        DUE.is("29: spoilt on the way only", x.cut(), -1);
        row(x, 0, 1);
        tells(x, 0, 2);
        DUE.is("29: an answer is to come", x.cut(), -1);
        row(x, 0, 2);
        tells(x, 12, 8);
        DUE.is("29: none can come", x.cut(), -1);
        row(x, 12, 8);
        DUE.comes(x, 0);
        DUE.is("29: the run is spoilt, the row is not", x.cut(), -1);
        x.clear();
        for (int k = 0; k < 40; k++) {
            x.tell(1);
        }
        DUE.is("29: forty", x.cut(), -1);
        DUE.is("29: stay", x.count(6), 40);
    }

    /** 29: from the first on, and behind the last again, till none was taken out. */
    private static void cutting() {
        ClickOrders x = DUE.of("on press 0{a=1;}on press 1{a=0;}on press 2{ask 0 1;}harm a=1;");
        tells(x, 0);
        DUE.is("29: one that must stay", x.cut(), 1);
        row(x, 0);
        tells(x, 8, 0, 12, 0, 1, 0, 9);
        DUE.is("29: those that can not come go, too", x.cut(), 1);
        row(x, 0);
        tells(x, 0, 2, 9);
        DUE.is("29: an answer's press goes only behind the answer's", x.cut(), 1);
        row(x, 0);
        x.clear();
        for (int k = 0; k < 40; k++) {
            x.tell(0);
        }
        DUE.is("29: forty", x.cut(), 1);
        row(x, 0);
        ClickOrders empty = DUE.of("on press 0{a=1;}harm a<2;");
        DUE.is("29: an empty one that spoils", empty.cut(), 0);
        tells(empty, 0);
        DUE.is("29: nothing is left of one", empty.cut(), 0);
        row(empty);
        for (int k = 0; k < 40; k++) {
            empty.tell(k % 13);
        }
        DUE.is("29: nothing is left of forty", empty.cut(), 0);
        row(empty);
        ClickOrders all = DUE.of("on press 0{a=a+1;}harm a=40;");
        for (int k = 0; k < 40; k++) {
            all.tell(0);
        }
        DUE.is("29: all forty must stay", all.cut(), 40);
        DUE.is("29: and do", all.count(6), 40);
    }

    /** Presses 1 to 4 write their digits one behind the other, so that harm can name the rows that spoil. */
    private static void cuts(String told, String rows, String due) {
        StringBuilder text = new StringBuilder();
        for (int k = 1; k < 5; k++) {
            text.append("on press ").append(k).append("{a=a*10+").append(k).append(";}");
        }
        String sign = "harm ";
        for (String row : rows.split(" ")) {
            text.append(sign).append("a=").append(row.length() < 4 ? row : row.charAt(0) + "*10*100+" + row.substring(1));
            sign = " or ";
        }
        ClickOrders x = DUE.of(text + ";");
        String longest = rows.split(" ")[0];
        for (int k = 0; k < longest.length(); k++) {
            x.tell(longest.charAt(k) - '0');
        }
        DUE.is("29: " + told, x.cut(), due.length());
        for (int k = 0; k < due.length(); k++) {
            DUE.is("29: " + told + ": told(" + k + ")", x.told(k), due.charAt(k) - '0');
        }
        DUE.is("29: " + told + ": again", x.cut(), due.length());
    }

    private static void whichIsNext() {
        cuts("from the first on", "123 12 23", "23");
        cuts("the one behind it is next, not the first", "1234 134 14 34", "14");
        cuts("the one behind it is next, not the one behind that", "123 23 3 2", "3");
        cuts("behind the last one again from the first on", "123 13 3", "3");
        cuts("till none was", "1234 134 34 3", "3");
        cuts("one after the other, not two at once", "1234 12 34", "1234");
        cuts("what was taken out stays out", "1234 234 24 124 12", "24");
        cuts("the last one is tried, too", "1234 123 12 1", "1");
    }

    public static void main(String[] args) {
        telling();
        records();
        notSpoilt();
        cutting();
        whichIsNext();
        DUE.ends();
    }
}
