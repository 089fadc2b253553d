/** Counts the calls whose answer is not the one that is due. */
final class Due {
    private int wrong = 0;

    void is(String call, long got, long want) {
        if (got != want) {
            wrong++;
            System.out.println(call + " answered " + got + ", due is " + want);
        }
    }

    void is(String call, boolean got, boolean want) {
        is(call, got ? 1 : 0, want ? 1 : 0);
    }

    void throwing(String call, Class<? extends RuntimeException> due, Runnable run) {
        String got = "nothing";
        try {
            run.run();
        } catch (RuntimeException e) {
            got = e.getClass().getSimpleName();
        }
        if (!got.equals(due.getSimpleName())) {
            wrong++;
            System.out.println(call + " threw " + got + ", due is " + due.getSimpleName());
        }
    }

    /** The text on the tape, with zeros behind it up to twenty bytes. */
    static void feeds(ClickOrders x, String text) {
        for (int at = 0; at < text.length(); at += 20) {
            int[] n = new int[5];
            for (int k = 0; k < 20; k++) {
                int sign = at + k < text.length() ? text.charAt(at + k) : 0;
                n[k / 4] = n[k / 4] << 8 | sign;
            }
            x.feed(n[0], n[1], n[2], n[3], n[4]);
        }
    }

    static int reads(ClickOrders x, String text) {
        feeds(x, text);
        return x.program(text.length());
    }

    /** A new object with a program that must be well read. */
    ClickOrders of(String text) {
        ClickOrders x = new ClickOrders();
        int steps = reads(x, text);
        if (steps < 0) {
            wrong++;
            System.out.println("'" + text + "' was not well read: " + steps + " at " + x.fault());
        }
        return x;
    }

    void comes(ClickOrders x, int... codes) {
        for (int code : codes) {
            is("come(" + code + ") comes", x.come(code) >= 0, true);
        }
    }

    void ends() {
        System.out.println(wrong == 0 ? "all answers are as due" : wrong + " answers are not as due");
        if (wrong != 0) {
            System.exit(1);
        }
    }
}
