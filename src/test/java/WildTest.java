import java.util.NoSuchElementException;
import java.util.Random;
import java.util.Set;
import java.util.function.IntSupplier;

/** Calls with numbers from everywhere, on programs of all kinds: nothing is thrown but what the document names for the call. */
public final class WildTest {
    private static final Due DUE = new Due();
    private static final int MOST_CALLS = 512;
    private static final Set<Class<?>> ARGUMENT = Set.of(IllegalArgumentException.class);
    private static final Set<Class<?>> INDEX = Set.of(IndexOutOfBoundsException.class);
    private static final Set<Class<?>> ELEMENT = Set.of(NoSuchElementException.class);
    private static final Set<Class<?>> NOTHING = Set.of();

    private final Random random;
    private final ClickOrders x = new ClickOrders();
    private int used = 0;

    private WildTest(long seed) {
        random = new Random(seed);
    }

    private int wild() {
        return switch (random.nextInt(8)) {
            case 0 -> Integer.MIN_VALUE + random.nextInt(2);
            case 1 -> Integer.MAX_VALUE - random.nextInt(2);
            case 2 -> random.nextInt();
            case 3 -> random.nextInt(1400) - 700;
            default -> random.nextInt(16) - 2;
        };
    }

    private static void only(String call, Set<Class<?>> named, IntSupplier run) {
        try {
            run.getAsInt();
        } catch (RuntimeException e) {
            DUE.is(call + " may throw " + e.getClass().getSimpleName(), named.contains(e.getClass()), true);
        } catch (Error e) {
            DUE.is(call + " may throw " + e, false, true);
        }
    }

    private void calls() {
        used += 2;
        int a = wild();
        int b = wild();
        int c = wild();
        int d = wild();
        switch (random.nextInt(39)) {
            case 0, 1 -> only("feed", NOTHING, () -> x.feed(a, b, c, d, wild()));
            case 2 -> only("program", ARGUMENT, () -> x.program(a));
            case 3 -> only("fault", NOTHING, x::fault);
            case 4 -> only("begin", NOTHING, x::begin);
            case 5 -> only("can", ARGUMENT, () -> x.can(a) ? 1 : 0);
            case 6, 7 -> only("come", ARGUMENT, () -> x.come(a));
            case 8 -> only("name", INDEX, () -> x.name(a));
            case 9 -> only("thing", INDEX, () -> x.thing(a));
            case 10 -> only("far", INDEX, () -> x.far(a));
            case 11 -> only("line", INDEX, () -> x.line(a, b));
            case 12 -> only("clock", NOTHING, () -> x.clock(a));
            case 13 -> only("failed", NOTHING, () -> x.failed() ? 1 : 0);
            case 14 -> only("spoilt", NOTHING, () -> x.spoilt() ? 1 : 0);
            case 15 -> only("happening", Set.of(NoSuchElementException.class, IllegalArgumentException.class), () -> x.happening(a, b));
            case 16 -> only("ordered", ELEMENT, () -> x.ordered(a, b) ? 1 : 0);
            case 17 -> only("crossings", NOTHING, x::crossings);
            case 18 -> only("crossing", NOTHING, () -> x.crossing(a));
            case 19 -> only("why", ELEMENT, () -> x.why(a, b));
            case 20 -> only("turn", ELEMENT, () -> x.turn(a, b));
            case 21 -> only("sorts", ARGUMENT, () -> x.sorts(a));
            case 22 -> only("worst", ARGUMENT, () -> x.worst(a, b));
            case 23 -> only("step", ARGUMENT, () -> x.step(a, b, c));
            case 24 -> only("pages", ARGUMENT, () -> x.pages(a, b));
            case 25 -> only("stuck", ARGUMENT, () -> x.stuck(a, b, c));
            case 26 -> only("tell", ARGUMENT, () -> x.tell(a));
            case 27 -> only("clear", NOTHING, x::clear);
            case 28 -> only("record", NOTHING, x::record);
            case 29 -> only("cut", NOTHING, x::cut);
            case 30 -> only("told", NOTHING, () -> x.told(a));
            case 31 -> only("form", ARGUMENT, () -> x.form(a, b, c, d));
            case 32 -> only("use", INDEX, () -> x.use(a, b > 0) ? 1 : 0);
            case 33 -> only("cheapest", ARGUMENT, () -> x.cheapest(a, b, c, d));
            case 34 -> only("windows", NOTHING, x::windows);
            case 35 -> only("comes", ARGUMENT, () -> x.comes(a, b));
            case 36 -> only("shows", Set.of(IndexOutOfBoundsException.class, IllegalArgumentException.class), () -> x.shows(a, b));
            case 37 -> only("lost", ARGUMENT, () -> x.lost(a));
            default -> {
                only("newer", ARGUMENT, () -> x.newer(a, b));
                only("count", NOTHING, () -> x.count(a));
            }
        }
    }

    private void reads(Texts texts) {
        String text = texts.program();
        for (int k = random.nextInt(3); k > 0; k--) {
            text = texts.spoiled(text);
        }
        String read = text;
        used += 31;
        only("program '" + read + "'", ARGUMENT, () -> Due.reads(x, read));
    }

    public static void main(String[] args) {
        for (long seed = 1; seed <= 600; seed++) {
            WildTest test = new WildTest(seed);
            Texts texts = new Texts(test.random);
            for (int k = 0; test.used < MOST_CALLS - 32; k++) {
                if (k % 50 == 0) {
                    test.reads(texts);
                }
                test.calls();
            }
        }
        DUE.ends();
    }
}
