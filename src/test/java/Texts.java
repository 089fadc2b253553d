import java.util.Random;

/** Programs at random: mostly well made, some of them with a byte that is wrong. */
final class Texts {
    private final Random random;
    private final StringBuilder out = new StringBuilder();
    private int things = 3;
    private int lines = 2;
    private int names = 3;

    Texts(Random random) {
        this.random = random;
    }

    String program() {
        String text;
        do {
            out.setLength(0);
            things = 2 + random.nextInt(random.nextInt(4) == 0 ? 7 : 3);
            lines = 1 + random.nextInt(random.nextInt(4) == 0 ? 4 : 2);
            names = 1 + random.nextInt(random.nextInt(4) == 0 ? 8 : 3);
            if (random.nextInt(4) == 0) {
                raced();
            } else {
                parts();
            }
            text = out.toString();
        } while (text.length() > 600);
        return text;
    }

    /** One to three bytes of it are changed, taken out or put in. */
    String spoiled(String text) {
        StringBuilder bad = new StringBuilder(text);
        String signs = "onifabchkpz0123456789{}()[];=<>+-*/, \u0001\u00ff";
        for (int k = random.nextInt(3); k >= 0 && bad.length() > 0; k--) {
            int at = random.nextInt(bad.length());
            char sign = signs.charAt(random.nextInt(signs.length()));
            switch (random.nextInt(4)) {
                case 0 -> bad.setCharAt(at, sign);
                case 1 -> bad.deleteCharAt(at);
                case 2 -> bad.insert(at, sign);
                default -> bad.setLength(at);
            }
        }
        if (bad.length() > 600) {
            bad.setLength(600);
        }
        return bad.toString();
    }

    private String one(String... of) {
        return of[random.nextInt(of.length)];
    }

    /** Presses that ask, answers that clear what they set, and presses that should not come between: what forms are for. */
    private void raced() {
        for (int line = 0; line < lines && line < 2; line++) {
            String flag = line == 0 ? "a" : "b";
            String sum = line == 0 ? "c" : "d";
            if (random.nextInt(3) == 0) {
                out.append("on ").append(one("clock ", "press ")).append(line).append('{').append(flag).append("=1;ask ").append(line).append(' ').append(one("1", sum, "far 0")).append(";}");
            } else {
                out.append("on press ").append(line * 2).append("{ask ").append(line).append(' ').append(one("1", "2", sum + "+1"));
                out.append(';').append(flag).append("=1;").append(one("", "hide 1;", "grey 3;", "clock 0 1;")).append('}');
            }
            out.append("on answer ").append(line).append('{').append(flag).append("=0;").append(sum).append('=');
            out.append(one("got", "got+" + sum, "1")).append(';').append(one("", "show 1;", "live 3;", "save 0 1;")).append('}');
            out.append("on press ").append(line * 2 + 1).append("{if ").append(flag).append("=1 ").append(one("e=1;", "fail;", "stop 0;"));
            out.append('}');
        }
        out.append("harm ").append(one("e=1", "c=1", "c=1 and a=0", "d>1", "e=1 or d=2")).append(';');
        out.append(one("", "place a=0;", "place a=0 and b=0;", "place c=0 or c=3;"));
    }

    private void parts() {
        if (random.nextInt(3) == 0) {
            handler("start");
        }
        for (int k = 0; k < things; k++) {
            if (random.nextInt(9) > 0) {
                handler("press " + k);
            }
        }
        for (int k = 0; k < lines; k++) {
            if (random.nextInt(5) > 0) {
                handler("answer " + k);
            }
            if (random.nextInt(3) == 0) {
                handler("clock " + k);
            }
        }
        if (random.nextInt(3) > 0) {
            out.append("harm");
            gap();
            condition(random.nextInt(3));
            out.append(';');
        }
        if (random.nextInt(2) == 0) {
            out.append(" place ");
            condition(random.nextInt(3));
            out.append(';');
        }
        blank();
    }

    private void handler(String event) {
        blank();
        out.append("on ").append(event);
        blank();
        out.append('{');
        for (int k = (random.nextInt(5) + 1) / 2 + random.nextInt(2); k > 0; k--) {
            step(0);
        }
        blank();
        out.append('}');
    }

    private void step(int depth) {
        blank();
        switch (random.nextInt(depth < 3 ? 23 : 20) - 6) {
            case -6, -5, -4, -3, -2, -1, 0, 1, 2, 3 -> {
                name();
                blank();
                out.append('=');
                sum(random.nextInt(3));
            }
            case 4 -> out.append("show ").append(random.nextInt(things));
            case 5 -> out.append("hide ").append(random.nextInt(things));
            case 6 -> out.append("grey ").append(random.nextInt(things));
            case 7 -> out.append("live").append(random.nextInt(things));
            case 8 -> out.append("clock ").append(random.nextInt(lines)).append(' ').append(random.nextInt(4));
            case 9, 10, 11 -> {
                out.append("ask ").append(random.nextInt(lines)).append(' ');
                sum(random.nextInt(2));
            }
            case 12 -> {
                out.append("save ").append(random.nextInt(lines)).append(' ');
                sum(random.nextInt(2));
            }
            case 13 -> out.append(random.nextInt(4) == 0 ? "fail" : "stop " + random.nextInt(lines));
            default -> {
                out.append("if ");
                condition(random.nextInt(2));
                gap();
                step(depth + 1);
                return;
            }
        }
        blank();
        out.append(';');
    }

    private void condition(int depth) {
        int sort = random.nextInt(depth > 0 ? 7 : 3);
        if (sort == 6) {
            out.append(" not ");
            condition(depth - 1);
        } else if (sort == 5) {
            out.append('[');
            condition(depth - 1);
            out.append(']');
        } else if (sort > 2) {
            condition(depth - 1);
            out.append(sort == 3 ? " and " : " or ");
            condition(depth - 1);
        } else {
            blank();
            if (random.nextInt(3) == 0) {
                sum(random.nextInt(2));
            } else {
                name();
            }
            blank();
            out.append("<>=".charAt(sort == 0 ? random.nextInt(3) : sort));
            if (random.nextInt(2) == 0) {
                sum(random.nextInt(2));
            } else {
                out.append(random.nextInt(4));
            }
        }
    }

    private void sum(int depth) {
        blank();
        switch (random.nextInt(depth > 0 ? 12 : 6)) {
            case 0, 1 -> out.append(random.nextInt(20) == 0 ? random.nextInt(1000) : random.nextInt(3));
            case 2, 3 -> name();
            case 4 -> out.append("got");
            case 5 -> out.append("far ").append(random.nextInt(lines));
            case 6 -> {
                out.append('(');
                sum(depth - 1);
                out.append(')');
            }
            case 7 -> {
                out.append(random.nextBoolean() ? "least(" : "most (");
                sum(depth - 1);
                out.append(',');
                sum(depth - 1);
                out.append(')');
            }
            default -> {
                sum(depth - 1);
                blank();
                out.append("+-*/".charAt(random.nextInt(4)));
                sum(depth - 1);
            }
        }
    }

    private void name() {
        out.append((char) ('a' + random.nextInt(names)));
    }

    private void blank() {
        if (random.nextInt(6) == 0) {
            out.append(' ');
        }
    }

    private void gap() {
        out.append(' ');
        blank();
    }
}
