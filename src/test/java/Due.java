/** Counts the calls whose answer is not the one that is due. */
final class Due {
    private int wrong = 0;

    void is(String call, long got, long want) {
        if (got != want) {
            wrong++;
            System.out.println(call + " answered " + got + ", due is " + want);
        }
    }

    void is(String call, boolean got, boolean want) {
        is(call, got ? 1 : 0, want ? 1 : 0);
    }

    void throwing(String call, Class<? extends RuntimeException> due, Runnable run) {
        String got = "nothing";
        try {
            run.run();
        } catch (RuntimeException e) {
            got = e.getClass().getSimpleName();
        }
        if (!got.equals(due.getSimpleName())) {
            wrong++;
            System.out.println(call + " threw " + got + ", due is " + due.getSimpleName());
        }
    }

    /** The text on the tape, with zeros behind it up to twenty bytes. */
    static void feeds(ClickOrders x, String text) {
        for (int at = 0; at < text.length(); at += 20) {
            int[] n = new int[5];
            for (int k = 0; k < 20; k++) {
                int sign = at + k < text.length() ? text.charAt(at + k) : 0;
                n[k / 4] = n[k / 4] << 8 | sign;
            }
            x.feed(n[0], n[1], n[2], n[3], n[4]);
        }
    }

    static int reads(ClickOrders x, String text) {
        feeds(x, text);
        return x.program(text.length());
    }

    /** A new object with a program that must be well read. */
    ClickOrders of(String text) {
        ClickOrders x = new ClickOrders();
        int steps = reads(x, text);
        if (steps < 0) {
            wrong++;
            System.out.println("'" + text + "' was not well read: " + steps + " at " + x.fault());
        }
        return x;
    }

    /** The text is a program of so many steps. */
    void well(String text, int steps) {
        ClickOrders x = new ClickOrders();
        is("program '" + text + "'", reads(x, text), steps);
        is("fault() behind '" + text + "'", x.fault(), -1);
        is("count(0) behind '" + text + "'", x.count(0), steps);
    }

    /** The text has that fault there; the program ahead of it stays, and the tape is empty. */
    void bad(String text, int kind, int place) {
        ClickOrders x = of("on press 1{a=1;b=2;}");
        is("program '" + text + "'", reads(x, text), kind - 10);
        is("fault() behind '" + text + "'", x.fault(), place);
        is("the program stays behind '" + text + "'", x.count(0), 2);
        is("the tape is empty behind '" + text + "'", x.count(7), 0);
    }

    /** All that can be asked of an object without changing it, in some hundred calls. */
    static String all(ClickOrders x) {
        StringBuilder all = new StringBuilder();
        for (int k = 0; k < 8; k++) {
            all.append(x.count(k)).append(' ').append(x.name(k)).append(' ').append(x.thing(k)).append(' ');
            all.append(x.shows(0, k)).append(' ').append(x.shows(1, k)).append(';');
        }
        for (int line = 0; line < 4; line++) {
            all.append(x.far(line)).append('|');
            for (int k = -1; k < x.line(line, -1); k++) {
                all.append(x.line(line, k)).append(' ');
            }
        }
        for (int k = -1; k < 3; k++) {
            all.append(x.clock(k)).append(';');
        }
        for (int code = 0; code < 13; code++) {
            all.append(x.can(code) ? '+' : '-');
        }
        all.append(x.failed()).append(x.spoilt()).append(x.fault()).append(' ').append(x.crossings()).append(' ');
        int latest = x.count(2) - 1;
        for (int what = 0; what < 4 && latest >= 0; what++) {
            all.append(x.happening(latest, what)).append(' ');
        }
        return all.append(x.told(0)).append(' ').append(x.told(x.count(6) - 1)).toString();
    }

    /** The call throws what is due, and leaves all else as it was. */
    void refused(ClickOrders x, String call, Class<? extends RuntimeException> due, Runnable run) {
        String ahead = all(x);
        throwing(call, due, run);
        same(call, all(x), ahead);
    }

    void same(String call, String got, String want) {
        if (!got.equals(want)) {
            wrong++;
            System.out.println(call + " did not leave all as it was:\n  " + want + "\n  " + got);
        }
    }

    void comes(ClickOrders x, int... codes) {
        for (int code : codes) {
            is("come(" + code + ") comes", x.come(code) >= 0, true);
        }
    }

    void ends() {
        System.out.println(wrong == 0 ? "all answers are as due" : wrong + " answers are not as due");
        if (wrong != 0) {
            System.exit(1);
        }
    }
}
