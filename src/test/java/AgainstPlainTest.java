import java.util.ArrayList;
import java.util.List;
import java.util.Random;
import java.util.function.Supplier;

/** Runs of calls at random, each call on ClickOrders and on PlainOrders: the answers must be the same. */
public final class AgainstPlainTest {
    private static final int MOST_CALLS = 512;
    private static int wrong = 0;
    /** How often which answer came, to see what the runs reach; only kept if asked for. */
    private static java.util.TreeMap<String, Integer> tally = null;

    private final Random random;
    private final Texts texts;
    private final ClickOrders mine = new ClickOrders();
    private final PlainOrders plain = new PlainOrders();
    private final List<String> log = new ArrayList<>();
    private int calls = 0;
    private boolean isOff = false;

    private AgainstPlainTest(long seed) {
        random = new Random(seed);
        texts = new Texts(random);
    }

    private static String answer(Supplier<Object> call) {
        try {
            return String.valueOf(call.get());
        } catch (RuntimeException e) {
            return "throws." + e.getClass().getSimpleName();
        }
    }

    /** Behind the 512th call of an object nothing is promised any more. */
    private void same(String call, Supplier<Object> one, Supplier<Object> other) {
        if (calls >= MOST_CALLS) {
            return;
        }
        String got = answer(one);
        String due = answer(other);
        log.add(call + " " + due);
        if (tally != null) {
            tally.merge(call.replaceAll("\\(.*", "") + " " + due, 1, Integer::sum);
        }
        calls++;
        if (!got.equals(due) && !isOff) {
            wrong++;
            isOff = true;
            System.out.println(String.join("\n", log));
            System.out.println("  answered " + got + ", due is " + due);
        }
    }

    private void reads(String text) {
        log.add("  TEXT '" + text + "'");
        for (int at = 0; at < text.length(); at += 20) {
            int[] n = new int[5];
            for (int k = 0; k < 20; k++) {
                int sign = at + k < text.length() ? text.charAt(at + k) : 0;
                n[k / 4] = n[k / 4] << 8 | sign;
            }
            same("feed", () -> mine.feed(n[0], n[1], n[2], n[3], n[4]), () -> plain.feed(n));
        }
        same("program(" + text.length() + ")", () -> mine.program(text.length()), () -> plain.program(text.length()));
        same("fault()", mine::fault, plain::fault);
    }

    /** Mostly below the limit, now and then beside it. */
    private int below(int limit) {
        return random.nextInt(12) == 0 ? random.nextInt(limit + 4) - 2 : random.nextInt(limit);
    }

    /** A code, mostly one that can come. */
    private int code() {
        int code = below(13);
        for (int k = 0; k < 6 && code >= 0 && code < 13 && !plain.can(code); k++) {
            code = random.nextInt(13);
        }
        return random.nextInt(3) > 0 && code > 2 && code < 8 ? code % 3 : code;
    }

    private void looks() {
        for (int k = -1; k <= 8; k++) {
            int at = k;
            same("name(" + k + ")", () -> mine.name(at), () -> plain.name(at));
            same("thing(" + k + ")", () -> mine.thing(at), () -> plain.thing(at));
            same("count(" + k + ")", () -> mine.count(at), () -> plain.count(at));
        }
        for (int k = -2; k <= 4; k++) {
            int at = k;
            same("far(" + k + ")", () -> mine.far(at), () -> plain.far(at));
            same("clock(" + k + ")", () -> mine.clock(at), () -> plain.clock(at));
            int line = below(4);
            same("line(" + line + ", " + k + ")", () -> mine.line(line, at), () -> plain.line(line, at));
        }
        same("failed()", mine::failed, plain::failed);
        same("spoilt()", mine::spoilt, plain::spoilt);
    }

    private void pairs() {
        int size = plain.count(2);
        same("crossings()", mine::crossings, plain::crossings);
        for (int k = 0; k < 10; k++) {
            int i = below(Math.max(size, 1));
            int j = below(Math.max(size, 1));
            same("ordered(" + i + ", " + j + ")", () -> mine.ordered(i, j), () -> plain.ordered(i, j));
            same("why(" + i + ", " + j + ")", () -> mine.why(i, j), () -> plain.why(i, j));
            same("turn(" + i + ", " + j + ")", () -> mine.turn(i, j), () -> plain.turn(i, j));
            int what = below(4);
            same("happening(" + i + ", " + what + ")", () -> mine.happening(i, what), () -> plain.happening(i, what));
            same("crossing(" + (j * 2 - 1) + ")", () -> mine.crossing(j * 2 - 1), () -> plain.crossing(j * 2 - 1));
        }
        int sort = below(5);
        same("sorts(" + sort + ")", () -> mine.sorts(sort), () -> plain.sorts(sort));
    }

    private void comesOften(int most) {
        for (int k = 0; k < most; k++) {
            int code = code();
            same("can(" + code + ")", () -> mine.can(code), () -> plain.can(code));
            same("come(" + code + ")", () -> mine.come(code), () -> plain.come(code));
        }
    }

    private void searches() {
        int n = random.nextInt(10) == 0 ? below(9) : random.nextInt(5);
        int most = random.nextInt(4) == 0 ? below(20) : random.nextInt(2) == 0 ? below(601) : random.nextInt(300);
        int m = random.nextInt(8) == 0 ? below(4) : random.nextInt(3);
        same("worst(" + n + ", " + most + ")", () -> mine.worst(n, most), () -> plain.worst(n, most));
        for (int k = -1; k < 5; k++) {
            int at = k;
            same("step(" + n + ", " + most + ", " + k + ")", () -> mine.step(n, most, at), () -> plain.step(n, most, at));
        }
        same("pages(" + n + ", " + most + ")", () -> mine.pages(n, most), () -> plain.pages(n, most));
        same("stuck(" + n + ", " + m + ", " + most + ")", () -> mine.stuck(n, m, most), () -> plain.stuck(n, m, most));
        same("worst(" + n + ", " + most + ")", () -> mine.worst(n, most), () -> plain.worst(n, most));
        same("newer(" + n + ", " + most + ")", () -> mine.newer(n, most), () -> plain.newer(n, most));
        int what = below(2);
        int less = Math.min(n, 3);
        if (random.nextInt(2) == 0) {
            same("cheapest(" + less + ", " + m + ", " + most + ", " + what + ")",
                () -> mine.cheapest(less, m, most, what), () -> plain.cheapest(less, m, most, what));
            same("cheapest(" + less + ", " + m + ", " + most + ", " + (1 - what) + ")",
                () -> mine.cheapest(less, m, most, 1 - what), () -> plain.cheapest(less, m, most, 1 - what));
        }
    }

    private void rows() {
        if (random.nextInt(2) == 0) {
            same("clear()", mine::clear, plain::clear);
        }
        for (int k = random.nextInt(14); k > 0; k--) {
            int code = random.nextInt(3) == 0 ? below(13) : random.nextInt(2) == 0 ? random.nextInt(3) : 8 + random.nextInt(3);
            same("tell(" + code + ")", () -> mine.tell(code), () -> plain.tell(code));
        }
        same("record()", mine::record, plain::record);
        same("cut()", mine::cut, plain::cut);
        for (int k = -1; k < 6; k++) {
            int at = k;
            same("told(" + k + ")", () -> mine.told(at), () -> plain.told(at));
        }
    }

    private void forms() {
        for (int k = random.nextInt(4); k > 0; k--) {
            int sort = below(3);
            int thing = below(4);
            int line = below(2);
            int price = random.nextInt(9) == 0 ? below(101) : random.nextInt(4);
            same("form(" + sort + ", " + thing + ", " + line + ", " + price + ")",
                () -> mine.form(sort, thing, line, price), () -> plain.form(sort, thing, line, price));
        }
        int form = below(plain.count(5) + 1);
        boolean is = random.nextBoolean();
        same("use(" + form + ", " + is + ")", () -> mine.use(form, is), () -> plain.use(form, is));
    }

    private void twoWindows() {
        for (int k = 0; k < 10; k++) {
            int window = below(2);
            int code = random.nextInt(3) == 0 ? below(13) : random.nextInt(2) == 0 ? random.nextInt(3) : 8 + random.nextInt(3);
            int name = below(8);
            same("comes(" + window + ", " + code + ")", () -> mine.comes(window, code), () -> plain.comes(window, code));
            same("shows(" + window + ", " + name + ")", () -> mine.shows(window, name), () -> plain.shows(window, name));
        }
        if (random.nextInt(3) == 0) {
            same("windows()", mine::windows, plain::windows);
        }
        int n = random.nextInt(8) == 0 ? below(4) : random.nextInt(3);
        same("lost(" + n + ")", () -> mine.lost(n), () -> plain.lost(n));
    }

    private void goes() {
        while (calls < MOST_CALLS && !isOff) {
            switch (random.nextInt(10)) {
                case 0 -> {
                    String text = texts.program();
                    reads(random.nextInt(3) == 0 ? texts.spoiled(text) : text);
                }
                case 1, 2 -> comesOften(random.nextInt(8) == 0 ? 60 : 8);
                case 3 -> looks();
                case 4 -> pairs();
                case 5 -> searches();
                case 6 -> rows();
                case 7 -> forms();
                case 8 -> twoWindows();
                default -> {
                    if (random.nextInt(3) == 0) {
                        same("begin()", mine::begin, plain::begin);
                    }
                }
            }
            if (plain.count(1) == 0) {
                reads(texts.program());
            }
        }
    }

    public static void main(String[] args) {
        long from = args.length > 0 ? Long.parseLong(args[0]) : 1;
        long runs = args.length > 1 ? Long.parseLong(args[1]) : 300;
        tally = args.length > 2 ? new java.util.TreeMap<>() : null;
        for (long seed = from; seed < from + runs && wrong < 3; seed++) {
            AgainstPlainTest test = new AgainstPlainTest(seed);
            test.goes();
            if (test.isOff) {
                System.out.println("  in the run of seed " + seed);
            }
        }
        if (tally != null) {
            tally.forEach((answer, times) -> System.out.println(answer + ": " + times));
        }
        System.out.println(wrong == 0 ? runs + " runs answered alike" : wrong + " runs are not alike");
        if (wrong != 0) {
            System.exit(1);
        }
    }
}
