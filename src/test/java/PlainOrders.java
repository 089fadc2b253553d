import java.util.ArrayList;
import java.util.Arrays;
import java.util.HashMap;
import java.util.LinkedHashMap;
import java.util.List;
import java.util.Map;
import java.util.NoSuchElementException;

/**
 * The document once more, written as plainly as it goes and without a thought for speed: trees instead of orders,
 * texts as keys of pages, every set and every row tried. The tests hold ClickOrders against it.
 */
final class PlainOrders {
    static final class Fault extends Exception {
        final int kind;
        final int place;

        Fault(int kind, int place) {
            this.kind = kind;
            this.place = place;
        }
    }

    /** A tree: what it is, a number, and its parts. */
    record Node(String what, int number, List<Node> parts) { }

    static final class Text {
        final Map<String, List<Node>> handlers = new HashMap<>();
        Node harm = null;
        Node place = null;
        int steps = 0;
    }

    static final class Parser {
        final String text;
        final Text result = new Text();
        int at = 0;
        int open = 0;

        Parser(String text) {
            this.text = text;
        }

        Text parse() throws Fault {
            blanks();
            while (at < text.length()) {
                int on = at;
                switch (word()) {
                    case "on" -> handler(on);
                    case "harm" -> {
                        result.harm = condition();
                        sign(';');
                    }
                    case "place" -> {
                        result.place = condition();
                        sign(';');
                    }
                    default -> throw new Fault(1, on);
                }
                blanks();
            }
            return result;
        }

        void handler(int on) throws Fault {
            blanks();
            int place = at;
            String event = word();
            switch (event) {
                case "start" -> { }
                case "press" -> event += digit(8);
                case "clock", "answer" -> event += digit(4);
                default -> throw new Fault(1, place);
            }
            if (result.handlers.containsKey(event)) {
                throw new Fault(4, on);
            }
            List<Node> steps = new ArrayList<>();
            result.handlers.put(event, steps);
            sign('{');
            while (peek() != '}') {
                steps.add(step());
            }
            sign('}');
        }

        Node step() throws Fault {
            blanks();
            int place = at;
            String word = word();
            boolean isName = word.length() == 1 && word.charAt(0) <= 'h';
            if (!isName && !List.of("show", "hide", "grey", "live", "clock", "ask", "stop", "save", "fail", "if").contains(word)) {
                throw new Fault(1, place);
            }
            if (++result.steps > 60) {
                throw new Fault(3, place);
            }
            Node node;
            if (isName) {
                sign('=');
                node = new Node("set", word.charAt(0) - 'a', List.of(sum()));
            } else {
                switch (word) {
                    case "show", "hide", "grey", "live" -> node = new Node(word, digit(8), List.of());
                    case "clock" -> {
                        int which = digit(4);
                        node = new Node(word, which, List.of(new Node("number", number(), List.of())));
                    }
                    case "ask", "save" -> {
                        int which = digit(4);
                        node = new Node(word, which, List.of(sum()));
                    }
                    case "stop" -> node = new Node(word, digit(4), List.of());
                    case "fail" -> node = new Node(word, 0, List.of());
                    default -> {
                        opens(place);
                        Node condition = condition();
                        node = new Node("if", 0, List.of(condition, step()));
                        open--;
                        return node;
                    }
                }
            }
            sign(';');
            return node;
        }

        Node condition() throws Fault {
            Node left = both();
            while (peekWord().equals("or")) {
                word();
                left = new Node("or", 0, List.of(left, both()));
            }
            return left;
        }

        Node both() throws Fault {
            Node left = claim();
            while (peekWord().equals("and")) {
                word();
                left = new Node("and", 0, List.of(left, claim()));
            }
            return left;
        }

        Node claim() throws Fault {
            int sign = peek();
            int place = at;
            if (peekWord().equals("not")) {
                word();
                opens(place);
                Node node = new Node("not", 0, List.of(claim()));
                open--;
                return node;
            }
            if (sign == '[') {
                at++;
                opens(place);
                Node node = condition();
                sign(']');
                open--;
                return node;
            }
            Node left = sum();
            int relation = peek();
            if (relation != '<' && relation != '>' && relation != '=') {
                throw new Fault(1, at);
            }
            at++;
            return new Node(String.valueOf((char) relation), 0, List.of(left, sum()));
        }

        Node sum() throws Fault {
            Node left = product();
            while (peek() == '+' || peek() == '-') {
                String sign = String.valueOf(text.charAt(at++));
                left = new Node(sign, 0, List.of(left, product()));
            }
            return left;
        }

        Node product() throws Fault {
            Node left = unit();
            while (peek() == '*' || peek() == '/') {
                String sign = String.valueOf(text.charAt(at++));
                left = new Node(sign, 0, List.of(left, unit()));
            }
            return left;
        }

        Node unit() throws Fault {
            int sign = peek();
            int place = at;
            if (sign >= '0' && sign <= '9') {
                return new Node("number", number(), List.of());
            }
            if (sign == '(') {
                at++;
                opens(place);
                Node node = sum();
                sign(')');
                open--;
                return node;
            }
            String word = word();
            if (word.length() == 1 && word.charAt(0) <= 'h') {
                return new Node("name", word.charAt(0) - 'a', List.of());
            }
            switch (word) {
                case "got":
                    return new Node("got", 0, List.of());
                case "far":
                    return new Node("far", digit(4), List.of());
                case "least":
                case "most":
                    peek();
                    int bracket = at;
                    sign('(');
                    opens(bracket);
                    Node left = sum();
                    sign(',');
                    Node right = sum();
                    sign(')');
                    open--;
                    return new Node(word, 0, List.of(left, right));
                default:
                    throw new Fault(1, place);
            }
        }

        void opens(int place) throws Fault {
            if (++open > 6) {
                throw new Fault(3, place);
            }
        }

        void blanks() {
            while (at < text.length() && text.charAt(at) == ' ') {
                at++;
            }
        }

        int peek() {
            blanks();
            return at < text.length() ? text.charAt(at) : -1;
        }

        String peekWord() {
            int kept = at;
            String word = word();
            at = kept;
            return word;
        }

        String word() {
            blanks();
            int from = at;
            while (at < text.length() && text.charAt(at) >= 'a' && text.charAt(at) <= 'z') {
                at++;
            }
            return text.substring(from, at);
        }

        String digits() throws Fault {
            blanks();
            int from = at;
            while (at < text.length() && text.charAt(at) >= '0' && text.charAt(at) <= '9') {
                at++;
            }
            if (from == at) {
                throw new Fault(1, at);
            }
            return text.substring(from, at);
        }

        int digit(int limit) throws Fault {
            String digits = digits();
            if (digits.length() > 1 || digits.charAt(0) - '0' >= limit) {
                throw new Fault(2, at - digits.length());
            }
            return digits.charAt(0) - '0';
        }

        int number() throws Fault {
            String digits = digits();
            if (new java.math.BigInteger(digits).compareTo(java.math.BigInteger.valueOf(999)) > 0) {
                throw new Fault(2, at - digits.length());
            }
            return Integer.parseInt(digits);
        }

        void sign(char sign) throws Fault {
            if (peek() != sign) {
                throw new Fault(1, at);
            }
            at++;
        }
    }

    record Answer(int number, int by) { }

    record Clock(int which, int hours, int by) { }

    static final class Sheet {
        int[] names = new int[8];
        boolean[] there = {true, true, true, true, true, true, true, true};
        boolean[] grey = new boolean[8];
        int[] far = new int[4];
        List<List<Answer>> lines = new ArrayList<>(List.of(new ArrayList<>(), new ArrayList<>(), new ArrayList<>(), new ArrayList<>()));
        List<Clock> clocks = new ArrayList<>();
        boolean failed = false;

        Sheet copy() {
            Sheet copy = new Sheet();
            copy.names = names.clone();
            copy.there = there.clone();
            copy.grey = grey.clone();
            copy.far = far.clone();
            for (int k = 0; k < 4; k++) {
                copy.lines.get(k).addAll(lines.get(k));
            }
            copy.clocks.addAll(clocks);
            copy.failed = failed;
            return copy;
        }

        String shown() {
            return Arrays.toString(names) + Arrays.toString(there) + Arrays.toString(grey);
        }

        String key() {
            StringBuilder key = new StringBuilder(shown()).append(Arrays.toString(far)).append(failed);
            for (List<Answer> line : lines) {
                key.append('|');
                line.forEach(a -> key.append(a.number()).append(','));
            }
            key.append('|');
            clocks.forEach(c -> key.append(c.which()).append(':').append(c.hours()).append(','));
            return key.toString();
        }

        boolean isFree(int thing) {
            return there[thing] && !grey[thing];
        }

        boolean isQuiet() {
            return clocks.isEmpty() && lines.stream().allMatch(List::isEmpty);
        }
    }

    static final class FormOf {
        int sort;
        int thing;
        int line;
        int price;
        boolean on;
    }

    static final class Failing extends RuntimeException {
    }

    // What a handler that runs touches, and for whom.
    private int reads;
    private int writes;
    private int got;
    private int by;
    private int window = -1;
    private final int[] lastSaver = new int[4];
    private final boolean[][] asked = new boolean[2][4];
    private int lostWords;

    private Text program = new Text();
    private Text old = new Text();
    private final StringBuilder tape = new StringBuilder();
    private int faultPlace = -1;
    private final List<FormOf> forms = new ArrayList<>();
    private final List<Integer> told = new ArrayList<>();

    private Sheet page;
    private final List<int[]> run = new ArrayList<>();
    private final List<String> shown = new ArrayList<>();
    private final List<boolean[]> free = new ArrayList<>();
    private Sheet[] pair;
    private int pairLost;
    private int[] pairSaver;
    private boolean[][] pairAsked;

    PlainOrders() {
        begin();
        windows();
    }

    // ---- working

    int value(Sheet on, Node node) {
        int left = node.parts().size() > 0 && !node.what().equals("if") ? value(on, node.parts().get(0)) : 0;
        int right = node.parts().size() > 1 && !node.what().equals("if") ? value(on, node.parts().get(1)) : 0;
        switch (node.what()) {
            case "number":
                return node.number();
            case "name":
                reads |= 1 << node.number();
                return on.names[node.number()];
            case "got":
                return got;
            case "far":
                reads |= 1 << 16 + node.number();
                if (window >= 0) {
                    asked[window][node.number()] = true;
                }
                return on.far[node.number()];
            case "+":
                return left + right;
            case "-":
                return left - right;
            case "*":
                return left * right;
            case "/":
                return right == 0 ? 0 : (int) ((long) left / right);
            case "least":
                return left < right ? left : right;
            case "most":
                return left > right ? left : right;
            case "<":
                return left < right ? 1 : 0;
            case ">":
                return left > right ? 1 : 0;
            case "=":
                return left == right ? 1 : 0;
            case "and":
                return left == 1 && right == 1 ? 1 : 0;
            case "or":
                return left == 1 || right == 1 ? 1 : 0;
            case "not":
                return left == 1 ? 0 : 1;
            default:
                throw new IllegalStateException(node.what());
        }
    }

    void does(Sheet on, Node node) {
        int k = node.number();
        switch (node.what()) {
            case "set" -> {
                on.names[k] = value(on, node.parts().get(0));
                writes |= 1 << k;
            }
            case "show", "hide" -> {
                on.there[k] = node.what().equals("show");
                writes |= 1 << 8 + k;
            }
            case "grey", "live" -> {
                on.grey[k] = node.what().equals("grey");
                writes |= 1 << 8 + k;
            }
            case "clock" -> {
                if (on.clocks.size() == 3) {
                    throw new Failing();
                }
                on.clocks.add(new Clock(k, node.parts().get(0).number(), by));
            }
            case "ask" -> {
                int number = value(on, node.parts().get(0));
                if (isOn(2, -1, k)) {
                    on.lines.get(k).clear();
                }
                if (on.lines.get(k).size() == 3) {
                    throw new Failing();
                }
                on.lines.get(k).add(new Answer(number, by));
                writes |= 1 << 20 + k;
            }
            case "stop" -> {
                on.lines.get(k).clear();
                writes |= 1 << 20 + k;
            }
            case "save" -> {
                on.far[k] = value(on, node.parts().get(0));
                writes |= 1 << 16 + k;
                if (window >= 0) {
                    if (lastSaver[k] == 1 - window && !asked[window][k]) {
                        lostWords++;
                    }
                    lastSaver[k] = window;
                    asked[1 - window][k] = false;
                }
            }
            case "fail" -> throw new Failing();
            case "if" -> {
                if (value(on, node.parts().get(0)) == 1) {
                    does(on, node.parts().get(1));
                }
            }
            default -> throw new IllegalStateException(node.what());
        }
    }

    boolean isOn(int sort, int thing, int line) {
        return forms.stream().anyMatch(f -> f.on && f.sort == sort && f.line == line && (sort != 0 || f.thing == thing));
    }

    void handles(Sheet on, String event) {
        List<Node> steps = program.handlers.get(event);
        if (steps == null) {
            return;
        }
        try {
            for (Node step : steps) {
                does(on, step);
            }
        } catch (Failing e) {
            on.failed = true;
        }
    }

    void starts(Sheet on) {
        reads = 0;
        writes = 0;
        got = 0;
        by = -1;
        handles(on, "start");
    }

    Sheet begun() {
        Sheet fresh = new Sheet();
        starts(fresh);
        return fresh;
    }

    boolean may(Sheet on, int code) {
        if (code < 8) {
            for (int line = 0; line < 4; line++) {
                if (!on.lines.get(line).isEmpty() && isOn(0, code, line)) {
                    return false;
                }
            }
            return on.isFree(code);
        }
        return code == 8 ? !on.clocks.isEmpty() : !on.lines.get(code - 9).isEmpty();
    }

    /** By which it was begot. */
    int happens(Sheet on, int code, int number) {
        reads = 0;
        writes = 0;
        got = 0;
        by = number;
        int comes = 0;
        for (int k = 1; k < on.clocks.size(); k++) {
            if (on.clocks.get(k).hours() < on.clocks.get(comes).hours()) {
                comes = k;
            }
        }
        on.clocks.replaceAll(c -> new Clock(c.which(), Math.max(c.hours() - 1, 0), c.by()));
        if (code < 8) {
            reads |= 1 << 8 + code;
            handles(on, "press" + code);
            return -1;
        }
        if (code == 8) {
            Clock clock = on.clocks.remove(comes);
            handles(on, "clock" + clock.which());
            return clock.by();
        }
        int line = code - 9;
        Answer answer = on.lines.get(line).remove(0);
        writes |= 1 << 20 + line;
        if (on.lines.get(line).isEmpty() || !isOn(1, -1, line)) {
            got = answer.number();
            handles(on, "answer" + line);
        }
        return answer.by();
    }

    boolean isBad(Sheet on) {
        got = 0;
        return on.failed || program.harm != null && on.isQuiet() && value(on, program.harm) == 1;
    }

    boolean isGood(Sheet on) {
        got = 0;
        return program.place == null || value(on, program.place) == 1;
    }

    // ---- the face

    int feed(int... numbers) {
        if (tape.length() + 20 > 600) {
            return -1;
        }
        for (int number : numbers) {
            for (int k = 3; k >= 0; k--) {
                tape.append((char) (number >>> 8 * k & 255));
            }
        }
        return tape.length();
    }

    int program(int n) {
        if (n < 0 || n > tape.length()) {
            throw new IllegalArgumentException();
        }
        String text = tape.substring(0, n);
        tape.setLength(0);
        try {
            Text read = new Parser(text).parse();
            old = program;
            program = read;
            faultPlace = -1;
            begin();
            windows();
            return program.steps;
        } catch (Fault fault) {
            faultPlace = fault.place;
            return fault.kind - 10;
        }
    }

    int fault() {
        return faultPlace;
    }

    int begin() {
        int had = run.size();
        page = begun();
        run.clear();
        shown.clear();
        free.clear();
        notes();
        return had;
    }

    private void notes() {
        shown.add(page.shown());
        boolean[] now = new boolean[8];
        for (int k = 0; k < 8; k++) {
            now[k] = page.isFree(k);
        }
        free.add(now);
    }

    static void code(int code) {
        if (code < 0 || code > 12) {
            throw new IllegalArgumentException();
        }
    }

    static void index(int k, int size) {
        if (k < 0 || k >= size) {
            throw new IndexOutOfBoundsException();
        }
    }

    boolean can(int code) {
        code(code);
        return may(page, code);
    }

    int come(int code) {
        code(code);
        if (!may(page, code)) {
            return -1;
        }
        if (run.size() == 40) {
            return -2;
        }
        int begot = happens(page, code, run.size());
        run.add(new int[] {code, begot, reads, writes});
        notes();
        return run.size() - 1;
    }

    int name(int k) {
        index(k, 8);
        return page.names[k];
    }

    int thing(int k) {
        index(k, 8);
        return (page.there[k] ? 1 : 0) + (page.grey[k] ? 2 : 0);
    }

    int far(int k) {
        index(k, 4);
        return page.far[k];
    }

    int line(int line, int k) {
        index(line, 4);
        List<Answer> answers = page.lines.get(line);
        return k == -1 ? answers.size() : k < 0 || k >= answers.size() ? Integer.MIN_VALUE : answers.get(k).number();
    }

    int clock(int k) {
        List<Clock> sorted = new ArrayList<>(page.clocks);
        sorted.sort((x, y) -> Integer.compare(x.hours(), y.hours()));
        return k == -1 ? sorted.size() : k < 0 || k >= sorted.size() ? -1 : 1000 * sorted.get(k).which() + sorted.get(k).hours();
    }

    boolean failed() {
        return page.failed;
    }

    boolean spoilt() {
        return isBad(page);
    }

    void happened(int k) {
        if (k < 0 || k >= run.size()) {
            throw new NoSuchElementException();
        }
    }

    int happening(int k, int what) {
        happened(k);
        if (what < 0 || what > 3) {
            throw new IllegalArgumentException();
        }
        return run.get(k)[what];
    }

    boolean ordered(int i, int j) {
        happened(i);
        happened(j);
        return i < j && order()[i][j];
    }

    private boolean[][] order() {
        int n = run.size();
        boolean[][] is = new boolean[n][n];
        for (int j = 0; j < n; j++) {
            int code = run.get(j)[0];
            int opener = -1;
            for (int i = 0; i < j; i++) {
                if (run.get(j)[1] == i || code >= 8 && run.get(i)[0] == code) {
                    is[i][j] = true;
                }
                if (code < 8 && free.get(i + 1)[code] && !free.get(i)[code]) {
                    opener = i;
                }
            }
            if (opener >= 0) {
                is[opener][j] = true;
            }
        }
        for (int k = 0; k < n; k++) {
            for (int i = 0; i < n; i++) {
                for (int j = 0; j < n; j++) {
                    is[i][j] |= is[i][k] && is[k][j];
                }
            }
        }
        return is;
    }

    private int items(int i, int j) {
        int mask = 0;
        for (int item = 0; item < 24; item++) {
            boolean writesI = (run.get(i)[3] >> item & 1) != 0;
            boolean writesJ = (run.get(j)[3] >> item & 1) != 0;
            boolean readsI = (run.get(i)[2] >> item & 1) != 0;
            boolean readsJ = (run.get(j)[2] >> item & 1) != 0;
            if (writesI && (writesJ || readsJ) || writesJ && readsI) {
                mask |= 1 << item;
            }
        }
        return mask;
    }

    private List<int[]> allCrossings() {
        List<int[]> all = new ArrayList<>();
        boolean[][] order = order();
        for (int i = 0; i < run.size(); i++) {
            for (int j = i + 1; j < run.size(); j++) {
                if (!order[i][j] && items(i, j) != 0) {
                    all.add(new int[] {i, j});
                }
            }
        }
        return all;
    }

    private boolean isCrossing(int i, int j) {
        return allCrossings().stream().anyMatch(c -> c[0] == i && c[1] == j);
    }

    int crossings() {
        return allCrossings().size();
    }

    int crossing(int k) {
        List<int[]> all = allCrossings();
        return k < 0 || k >= all.size() ? -1 : 64 * all.get(k)[0] + all.get(k)[1];
    }

    int why(int i, int j) {
        happened(i);
        happened(j);
        return isCrossing(Math.min(i, j), Math.max(i, j)) ? Integer.numberOfTrailingZeros(items(i, j)) : -1;
    }

    int turn(int i, int j) {
        happened(i);
        happened(j);
        return isCrossing(Math.min(i, j), Math.max(i, j)) ? turned(Math.min(i, j), Math.max(i, j), order()) : -1;
    }

    private int turned(int i, int j, boolean[][] order) {
        List<Integer> row = new ArrayList<>();
        for (int k = 0; k < i; k++) {
            row.add(k);
        }
        for (int k = i + 1; k < j; k++) {
            if (order[k][j]) {
                row.add(k);
            }
        }
        row.add(j);
        row.add(i);
        for (int k = i + 1; k < j; k++) {
            if (!order[k][j]) {
                row.add(k);
            }
        }
        for (int k = j + 1; k < run.size(); k++) {
            row.add(k);
        }
        Sheet other = begun();
        boolean isStrange = false;
        for (int k : row) {
            int code = run.get(k)[0];
            if (!may(other, code)) {
                if (k == j) {
                    return 0;
                }
                continue;
            }
            happens(other, code, -1);
            isStrange |= !shown.contains(other.shown());
        }
        if (other.failed && !page.failed) {
            return 4;
        }
        return !other.key().equals(page.key()) ? 3 : isStrange ? 2 : 1;
    }

    int sorts(int sort) {
        if (sort < 0 || sort > 4) {
            throw new IllegalArgumentException();
        }
        boolean[][] order = order();
        return (int) allCrossings().stream().filter(c -> turned(c[0], c[1], order) == sort).count();
    }

    /** All pages met, by their keys, each with its row; null if spent. Stops at a spoilt one if told so. */
    private static final class Rows {
        final Map<String, Sheet> pages = new LinkedHashMap<>();
        boolean isSpent = false;
        List<Integer> spoils = null;
    }

    private Rows rows(int n, int most, boolean stops) {
        Rows rows = new Rows();
        Map<String, List<Integer>> level = new LinkedHashMap<>();
        Sheet start = begun();
        rows.pages.put(start.key(), start);
        level.put(start.key(), List.of());
        if (isBad(start)) {
            rows.spoils = List.of();
            if (stops) {
                return rows;
            }
        }
        for (int depth = 0; depth < n; depth++) {
            Map<String, List<Integer>> next = new LinkedHashMap<>();
            for (Map.Entry<String, List<Integer>> entry : level.entrySet()) {
                for (int code = 0; code < 13; code++) {
                    Sheet then = rows.pages.get(entry.getKey()).copy();
                    if (!may(then, code)) {
                        continue;
                    }
                    happens(then, code, -1);
                    if (rows.pages.containsKey(then.key())) {
                        continue;
                    }
                    if (rows.pages.size() == most) {
                        rows.isSpent = true;
                        return rows;
                    }
                    rows.pages.put(then.key(), then);
                    List<Integer> row = new ArrayList<>(entry.getValue());
                    row.add(code);
                    next.put(then.key(), row);
                    if (rows.spoils == null && isBad(then)) {
                        rows.spoils = row;
                        if (stops) {
                            return rows;
                        }
                    }
                }
            }
            level = next;
        }
        return rows;
    }

    static void limits(int n, int m, int pages) {
        if (n < 0 || n > 8 || m < 0 || m > 3 || pages < 1 || pages > 600) {
            throw new IllegalArgumentException();
        }
    }

    int worst(int n, int pages) {
        limits(n, 0, pages);
        Rows rows = rows(n, pages, true);
        return rows.spoils != null ? rows.spoils.size() : rows.isSpent ? -2 : -1;
    }

    int step(int n, int pages, int k) {
        limits(n, 0, pages);
        List<Integer> row = rows(n, pages, true).spoils;
        return row == null || k < 0 || k >= row.size() ? -1 : row.get(k);
    }

    int pages(int n, int pages) {
        limits(n, 0, pages);
        Rows rows = rows(n, pages, false);
        return rows.isSpent ? -2 : rows.pages.size();
    }

    private boolean reaches(Sheet on, int more) {
        if (isGood(on)) {
            return true;
        }
        for (int code = 0; code < 13 && more > 0; code++) {
            if (may(on, code)) {
                Sheet then = on.copy();
                happens(then, code, -1);
                if (reaches(then, more - 1)) {
                    return true;
                }
            }
        }
        return false;
    }

    private int stuckOnes(Rows rows, int m) {
        return (int) rows.pages.values().stream().filter(on -> !reaches(on, m)).count();
    }

    int stuck(int n, int m, int pages) {
        limits(n, m, pages);
        Rows rows = rows(n, pages, false);
        return rows.isSpent ? -2 : stuckOnes(rows, m);
    }

    int tell(int code) {
        code(code);
        if (told.size() == 40) {
            return -1;
        }
        told.add(code);
        return told.size();
    }

    int clear() {
        int had = told.size();
        told.clear();
        return had;
    }

    int record() {
        Sheet on = begun();
        for (int k = 0; k < told.size(); k++) {
            if (!may(on, told.get(k))) {
                return k;
            }
            happens(on, told.get(k), -1);
        }
        return -1;
    }

    private boolean spoils(List<Integer> row) {
        Sheet on = begun();
        for (int code : row) {
            if (may(on, code)) {
                happens(on, code, -1);
            }
        }
        return isBad(on);
    }

    int cut() {
        if (!spoils(told)) {
            return -1;
        }
        boolean isCut = true;
        while (isCut) {
            isCut = false;
            int k = 0;
            while (k < told.size()) {
                List<Integer> without = new ArrayList<>(told);
                without.remove(k);
                if (spoils(without)) {
                    told.remove(k);
                    isCut = true;
                } else {
                    k++;
                }
            }
        }
        return told.size();
    }

    int told(int k) {
        return k < 0 || k >= told.size() ? -1 : told.get(k);
    }

    int form(int sort, int thing, int line, int price) {
        if (sort < 0 || sort > 2 || sort == 0 && (thing < 0 || thing > 7) || line < 0 || line > 3 || price < 0 || price > 100) {
            throw new IllegalArgumentException();
        }
        if (forms.size() == 6) {
            return -1;
        }
        FormOf form = new FormOf();
        form.sort = sort;
        form.thing = thing;
        form.line = line;
        form.price = price;
        forms.add(form);
        return forms.size() - 1;
    }

    boolean use(int form, boolean is) {
        index(form, forms.size());
        boolean was = forms.get(form).on;
        forms.get(form).on = is;
        return was;
    }

    int cheapest(int n, int m, int pages, int what) {
        limits(n, m, pages);
        if (what != 0 && what != 1) {
            throw new IllegalArgumentException();
        }
        List<Boolean> kept = new ArrayList<>();
        forms.forEach(f -> kept.add(f.on));
        List<Integer> safe = new ArrayList<>();
        for (int set = 0; set < 1 << forms.size(); set++) {
            for (int k = 0; k < forms.size(); k++) {
                forms.get(k).on = (set >> k & 1) == 1;
            }
            Rows rows = rows(n, pages, true);
            if (!rows.isSpent && rows.spoils == null && stuckOnes(rows, m) == 0) {
                safe.add(set);
            }
        }
        for (int k = 0; k < forms.size(); k++) {
            forms.get(k).on = kept.get(k);
        }
        safe.sort((x, y) -> {
            if (price(x) != price(y)) {
                return price(x) - price(y);
            }
            if (Integer.bitCount(x) != Integer.bitCount(y)) {
                return Integer.bitCount(x) - Integer.bitCount(y);
            }
            for (int k = 0; k < 6; k++) {
                if ((x >> k & 1) != (y >> k & 1)) {
                    return (x >> k & 1) == 1 ? -1 : 1;
                }
            }
            return 0;
        });
        return safe.isEmpty() ? -1 : what == 0 ? safe.get(0) : price(safe.get(0));
    }

    private int price(int set) {
        int sum = 0;
        for (int k = 0; k < forms.size(); k++) {
            sum += (set >> k & 1) * forms.get(k).price;
        }
        return sum;
    }

    // ---- windows

    /** Lets something come to a window of a pair, with who saved and who asked. */
    private int inWindow(Sheet[] two, int[] saver, boolean[][] asks, int which, int code) {
        window = which;
        lostWords = 0;
        System.arraycopy(saver, 0, lastSaver, 0, 4);
        for (int w = 0; w < 2; w++) {
            System.arraycopy(asks[w], 0, asked[w], 0, 4);
        }
        if (code < 0) {
            starts(two[which]);
        } else {
            happens(two[which], code, -1);
        }
        window = -1;
        two[1 - which].far = two[which].far.clone();
        System.arraycopy(lastSaver, 0, saver, 0, 4);
        for (int w = 0; w < 2; w++) {
            System.arraycopy(asked[w], 0, asks[w], 0, 4);
        }
        return lostWords;
    }

    int windows() {
        int had = pairLost;
        pair = new Sheet[] {new Sheet(), new Sheet()};
        pairSaver = new int[] {-1, -1, -1, -1};
        pairAsked = new boolean[2][4];
        pairLost = inWindow(pair, pairSaver, pairAsked, 0, -1) + inWindow(pair, pairSaver, pairAsked, 1, -1);
        return had;
    }

    int comes(int which, int code) {
        code(code);
        if (which != 0 && which != 1) {
            throw new IllegalArgumentException();
        }
        if (!may(pair[which], code)) {
            return -1;
        }
        pairLost += inWindow(pair, pairSaver, pairAsked, which, code);
        return pairLost;
    }

    int shows(int which, int name) {
        index(name, 8);
        if (which != 0 && which != 1) {
            throw new IllegalArgumentException();
        }
        return pair[which].names[name];
    }

    int lost(int n) {
        if (n < 0 || n > 3) {
            throw new IllegalArgumentException();
        }
        Sheet[] two = {new Sheet(), new Sheet()};
        int[] saver = {-1, -1, -1, -1};
        boolean[][] asks = new boolean[2][4];
        if (inWindow(two, saver, asks, 0, -1) + inWindow(two, saver, asks, 1, -1) > 0) {
            return 0;
        }
        return fewest(two, saver, asks, n);
    }

    private int fewest(Sheet[] two, int[] saver, boolean[][] asks, int left) {
        int best = -1;
        for (int w = 0; w < 2 && left > 0; w++) {
            for (int code = 0; code < 13; code++) {
                if (!may(two[w], code)) {
                    continue;
                }
                Sheet[] then = {two[0].copy(), two[1].copy()};
                int[] thenSaver = saver.clone();
                boolean[][] thenAsks = {asks[0].clone(), asks[1].clone()};
                int found = inWindow(then, thenSaver, thenAsks, w, code) > 0 ? 0 : fewest(then, thenSaver, thenAsks, left - 1);
                if (found >= 0 && (best < 0 || found + 1 < best)) {
                    best = found + 1;
                }
            }
        }
        return best;
    }

    int newer(int n, int pages) {
        limits(n, 0, pages);
        Text kept = program;
        program = old;
        int ahead = worst(n, pages);
        program = kept;
        return ahead >= 0 ? -1 : Math.max(-1, worst(n, pages));
    }

    int count(int what) {
        return switch (what) {
            case 0 -> program.steps;
            case 1 -> program.handlers.size();
            case 2 -> run.size();
            case 3 -> page.lines.stream().mapToInt(List::size).sum();
            case 4 -> page.clocks.size();
            case 5 -> forms.size();
            case 6 -> told.size();
            case 7 -> tape.length();
            default -> -1;
        };
    }
}
