import java.util.Arrays;
import java.util.NoSuchElementException;

/** Pages, the happenings on them in any order that can be, and what the other orders would have made of them. */
public final class ClickOrders {
    public static final int NONE = -1;

    private static final int VOID = -2147483648;
    private static final int SPENT = -2;
    private static final int CODES = 13;
    private static final int CLOCK_CODE = 8;
    private static final int LINE_CODES = 9;
    private static final int THINGS = 8;
    private static final int NAMES = 8;
    private static final int LINES = 4;
    private static final int ROWS = 4;
    private static final int TAPE = 600;
    private static final int LONGEST = 8;
    private static final int MOST_MORE = 3;
    private static final int MOST_PAGES = 600;
    private static final int MOST_PRICE = 100;

    private final int[] tape = new int[TAPE];
    private final Forms forms = new Forms();
    private Program present = new Program();
    private Program old = new Program();
    private Program spare = new Program();
    private final Reader reader = new Reader(tape, spare);
    private final Hand hand = new Hand(forms, present);
    private final Track track = new Track(hand);
    private final Search search = new Search(hand);
    private final Pair pair = new Pair(hand);
    private final Row row = new Row(hand);
    private int taped = 0;
    private int faultPlace = NONE;
    private int setKey = NONE;
    private int safeSet = NONE;

    public ClickOrders() {
        track.begins();
        pair.begins();
    }

    public int feed(int a, int b, int c, int d, int e) {
        if (taped + 20 > TAPE) {
            return NONE;
        }
        puts(a);
        puts(b);
        puts(c);
        puts(d);
        puts(e);
        return taped;
    }

    public int program(int n) throws IllegalArgumentException {
        if (n < 0 || n > taped) {
            throw new IllegalArgumentException();
        }
        int kind = reader.reads(n, spare);
        taped = 0;
        faultPlace = reader.place;
        if (kind != 0) {
            return kind - 10;
        }
        Program free = old;
        old = present;
        present = spare;
        spare = free;
        hand.program = present;
        forgets();
        track.begins();
        pair.begins();
        return present.steps;
    }

    public int fault() {
        return faultPlace;
    }

    public int begin() {
        int had = track.count;
        track.begins();
        return had;
    }

    public boolean can(int code) throws IllegalArgumentException {
        checkCode(code);
        return hand.may(track.page, code);
    }

    public int come(int code) throws IllegalArgumentException {
        checkCode(code);
        if (!hand.may(track.page, code)) {
            return NONE;
        }
        if (track.count >= Track.MOST) {
            return -2;
        }
        return track.adds(code);
    }

    public int name(int k) throws IndexOutOfBoundsException {
        checkIndex(k, NAMES);
        return track.page.cells[k];
    }

    public int thing(int k) throws IndexOutOfBoundsException {
        checkIndex(k, THINGS);
        int there = track.page.cells[Page.THERE] >> k & 1;
        int grey = track.page.cells[Page.GREY] >> k & 1;
        return there + 2 * grey;
    }

    public int far(int k) throws IndexOutOfBoundsException {
        checkIndex(k, ROWS);
        return track.page.cells[Page.FAR + k];
    }

    public int line(int line, int k) throws IndexOutOfBoundsException {
        checkIndex(line, LINES);
        int held = track.page.waiting(line);
        if (k == NONE) {
            return held;
        }
        if (k < 0 || k >= held) {
            return VOID;
        }
        return track.page.cells[Page.ANSWERS + line * Page.MOST + k];
    }

    public int clock(int k) {
        int held = track.page.ticking();
        if (k == NONE) {
            return held;
        }
        if (k < 0 || k >= held) {
            return NONE;
        }
        return track.page.clockOfRank(k);
    }

    public boolean failed() {
        return track.page.isBroken();
    }

    public boolean spoilt() {
        return hand.isBad(track.page);
    }

    public int happening(int k, int what) throws NoSuchElementException, IllegalArgumentException {
        checkHappening(k);
        switch (what) {
            case 0:
                return track.codes[k];
            case 1:
                return track.begetters[k];
            case 2:
                return track.reads[k];
            case 3:
                return track.writes[k];
            default:
                throw new IllegalArgumentException();
        }
    }

    public boolean ordered(int i, int j) throws NoSuchElementException {
        checkHappening(i);
        checkHappening(j);
        return track.isAhead(i, j);
    }

    public int crossings() {
        return track.crossingCount();
    }

    public int crossing(int k) {
        return track.crossingAt(k);
    }

    public int why(int i, int j) throws NoSuchElementException {
        checkHappening(i);
        checkHappening(j);
        int items = track.crossed(Math.min(i, j), Math.max(i, j));
        return items == 0 ? NONE : Integer.numberOfTrailingZeros(items);
    }

    public int turn(int i, int j) throws NoSuchElementException {
        checkHappening(i);
        checkHappening(j);
        int first = Math.min(i, j);
        int second = Math.max(i, j);
        return track.crossed(first, second) == 0 ? NONE : track.turned(first, second);
    }

    public int sorts(int sort) throws IllegalArgumentException {
        if (sort < 0 || sort >= Track.SORTS) {
            throw new IllegalArgumentException();
        }
        return track.tallyOf(sort);
    }

    public int worst(int n, int pages) throws IllegalArgumentException {
        checkRows(n, pages);
        search.goes(n, pages, false);
        return search.answer();
    }

    public int step(int n, int pages, int k) throws IllegalArgumentException {
        checkRows(n, pages);
        search.goes(n, pages, false);
        return search.codeAt(k);
    }

    public int pages(int n, int pages) throws IllegalArgumentException {
        checkRows(n, pages);
        search.goes(n, pages, true);
        return search.spent ? SPENT : search.found;
    }

    public int stuck(int n, int m, int pages) throws IllegalArgumentException {
        checkRows(n, pages);
        checkMore(m);
        search.goes(n, pages, true);
        return search.spent ? SPENT : search.stuckCount(m, MOST_PAGES);
    }

    public int tell(int code) throws IllegalArgumentException {
        checkCode(code);
        return row.adds(code);
    }

    public int clear() {
        int had = row.count;
        row.count = 0;
        return had;
    }

    public int record() {
        return row.firstRefused();
    }

    public int cut() {
        return row.shortens();
    }

    public int told(int k) {
        return k < 0 || k >= row.count ? NONE : row.codes[k];
    }

    public int form(int sort, int thing, int line, int price) throws IllegalArgumentException {
        boolean isSort = sort >= 0 && sort < Forms.SORTS;
        boolean isThing = sort != Forms.BAR || thing >= 0 && thing < THINGS;
        boolean isLine = line >= 0 && line < LINES;
        if (!isSort || !isThing || !isLine || price < 0 || price > MOST_PRICE) {
            throw new IllegalArgumentException();
        }
        forgets();
        return forms.adds(sort, thing, line, price);
    }

    public boolean use(int form, boolean is) throws IndexOutOfBoundsException {
        checkIndex(form, forms.count);
        int bit = 1 << form;
        boolean was = (forms.on & bit) != 0;
        if (was != is) {
            forms.turns(forms.on ^ bit);
            forgetsAllButSets();
        }
        return was;
    }

    public int cheapest(int n, int m, int pages, int what) throws IllegalArgumentException {
        checkRows(n, pages);
        checkMore(m);
        if (what < 0 || what > 1) {
            throw new IllegalArgumentException();
        }
        int key = (n * 4 + m) * 1024 + pages;
        if (key != setKey) {
            setKey = key;
            safeSet = NONE;
            int kept = forms.on;
            forms.ranksSets();
            search.forgetsBadRow();
            int set = forms.nextSet(NONE);
            for (int k = 0; k < Forms.SETS && set >= 0 && safeSet < 0; k++) {
                forms.turns(set);
                if (forms.isNewWork(present.asked) && search.isClean(n, pages) && search.stuckCount(m, 1) == 0) {
                    safeSet = set;
                }
                set = forms.nextSet(set);
            }
            forms.turns(kept);
            search.forgetsRows();
        }
        return safeSet < 0 || what == 0 ? safeSet : forms.priceOf(safeSet);
    }

    public int windows() {
        int had = pair.losses;
        pair.begins();
        return had;
    }

    public int comes(int window, int code) throws IllegalArgumentException {
        checkCode(code);
        if (window < 0 || window > 1) {
            throw new IllegalArgumentException();
        }
        return pair.takes(window, code);
    }

    public int shows(int window, int name) throws IndexOutOfBoundsException, IllegalArgumentException {
        checkIndex(name, NAMES);
        if (window < 0 || window > 1) {
            throw new IllegalArgumentException();
        }
        return pair.pages[window].cells[name];
    }

    public int lost(int n) throws IllegalArgumentException {
        checkMore(n);
        return pair.fewest(n);
    }

    public int newer(int n, int pages) throws IllegalArgumentException {
        checkRows(n, pages);
        hand.program = old;
        search.forgetsRows();
        search.goes(n, pages, false);
        int ahead = search.answer();
        hand.program = present;
        search.forgetsRows();
        if (ahead >= 0) {
            return NONE;
        }
        search.goes(n, pages, false);
        return Math.max(search.answer(), NONE);
    }

    public int count(int what) {
        switch (what) {
            case 0:
                return present.steps;
            case 1:
                return present.handlers;
            case 2:
                return track.count;
            case 3:
                return track.page.allWaiting();
            case 4:
                return track.page.ticking();
            case 5:
                return forms.count;
            case 6:
                return row.count;
            case 7:
                return taped;
            default:
                return NONE;
        }
    }

    private void puts(int number) {
        for (int shift = 24; shift >= 0; shift -= 8) {
            if (taped < TAPE) {
                tape[taped] = number >> shift & 255;
                taped++;
            }
        }
    }

    private void forgets() {
        setKey = NONE;
        forgetsAllButSets();
    }

    private void forgetsAllButSets() {
        search.forgetsRows();
        pair.forgetsFewest();
        track.forgetsTally();
    }

    private void checkCode(int code) {
        if (code < 0 || code >= CODES) {
            throw new IllegalArgumentException();
        }
    }

    private void checkIndex(int k, int size) {
        if (k < 0 || k >= size) {
            throw new IndexOutOfBoundsException();
        }
    }

    private void checkHappening(int k) {
        if (k < 0 || k >= track.count) {
            throw new NoSuchElementException();
        }
    }

    private void checkRows(int n, int most) {
        if (n < 0 || n > LONGEST || most < 1 || most > MOST_PAGES) {
            throw new IllegalArgumentException();
        }
    }

    private void checkMore(int m) {
        if (m < 0 || m > MOST_MORE) {
            throw new IllegalArgumentException();
        }
    }

    /** A page is one row of cells, so that it is copied and compared in one go. */
    private static final class Page {
        static final int THERE = 8;
        static final int GREY = 9;
        static final int SHOWN = 10;
        static final int FAR = 10;
        static final int BROKEN = 14;
        static final int WAITING = 15;
        static final int TICKING = 19;
        static final int ANSWERS = 20;
        static final int CLOCKS = 32;
        static final int ALIKE = 35;
        static final int ASKERS = 35;
        static final int SETTERS = 47;
        static final int SIZE = 50;
        static final int MOST = 3;
        static final int HOURS = 1000;

        final int[] cells = new int[SIZE];

        void blanks() {
            Arrays.fill(cells, 0);
            cells[THERE] = 255;
        }

        void copies(Page other) {
            System.arraycopy(other.cells, 0, cells, 0, SIZE);
        }

        boolean isAlike(Page other) {
            for (int k = 0; k < ALIKE; k++) {
                if (cells[k] != other.cells[k]) {
                    return false;
                }
            }
            return true;
        }

        boolean isBroken() {
            return cells[BROKEN] != 0;
        }

        int freeThings() {
            return cells[THERE] & ~cells[GREY];
        }

        int waiting(int line) {
            return cells[WAITING + line];
        }

        int allWaiting() {
            return cells[WAITING] + cells[WAITING + 1] + cells[WAITING + 2] + cells[WAITING + 3];
        }

        int busyLines() {
            int busy = 0;
            for (int line = 0; line < LINES; line++) {
                if (cells[WAITING + line] > 0) {
                    busy |= 1 << line;
                }
            }
            return busy;
        }

        int ticking() {
            return cells[TICKING];
        }

        boolean isQuiet() {
            return cells[TICKING] == 0 && allWaiting() == 0;
        }

        boolean takesAnswer(int line, int number, int by) {
            int held = cells[WAITING + line];
            if (held < 0 || held >= MOST) {
                return false;
            }
            int at = line * MOST + held;
            cells[ANSWERS + at] = number;
            cells[ASKERS + at] = by;
            cells[WAITING + line] = held + 1;
            return true;
        }

        void empties(int line) {
            int at = line * MOST;
            for (int k = 0; k < MOST; k++) {
                cells[ANSWERS + at + k] = 0;
            }
            cells[WAITING + line] = 0;
        }

        int asker(int line) {
            return cells[ASKERS + line * MOST];
        }

        /** The first answer goes; what stood behind it moves up, and the cell left over is 0, so that alike pages are alike. */
        int givesAnswer(int line) {
            int held = cells[WAITING + line];
            if (held <= 0) {
                return 0;
            }
            int at = line * MOST;
            int first = cells[ANSWERS + at];
            System.arraycopy(cells, ANSWERS + at + 1, cells, ANSWERS + at, MOST - 1);
            System.arraycopy(cells, ASKERS + at + 1, cells, ASKERS + at, MOST - 1);
            cells[ANSWERS + at + MOST - 1] = 0;
            cells[WAITING + line] = held - 1;
            return first;
        }

        boolean takesClock(int clock, int by) {
            int held = cells[TICKING];
            if (held < 0 || held >= MOST) {
                return false;
            }
            cells[CLOCKS + held] = clock;
            cells[SETTERS + held] = by;
            cells[TICKING] = held + 1;
            return true;
        }

        void ages() {
            for (int k = 0; k < cells[TICKING] && k < MOST; k++) {
                if (cells[CLOCKS + k] % HOURS > 0) {
                    cells[CLOCKS + k]--;
                }
            }
        }

        int soonest() {
            int best = NONE;
            for (int k = 0; k < cells[TICKING] && k < MOST; k++) {
                if (best < 0 || cells[CLOCKS + k] % HOURS < cells[CLOCKS + best] % HOURS) {
                    best = k;
                }
            }
            return best;
        }

        void dropsClock(int k) {
            if (k < 0 || k >= MOST) {
                return;
            }
            System.arraycopy(cells, CLOCKS + k + 1, cells, CLOCKS + k, MOST - 1 - k);
            System.arraycopy(cells, SETTERS + k + 1, cells, SETTERS + k, MOST - 1 - k);
            cells[CLOCKS + MOST - 1] = 0;
            cells[TICKING]--;
        }

        /** A clock's rank is how many come ahead of it. */
        int clockOfRank(int rank) {
            int held = Math.min(cells[TICKING], MOST);
            for (int k = 0; k < held; k++) {
                int hours = cells[CLOCKS + k] % HOURS;
                int ahead = 0;
                for (int other = 0; other < held; other++) {
                    int theirs = cells[CLOCKS + other] % HOURS;
                    if (theirs < hours || theirs == hours && other < k) {
                        ahead++;
                    }
                }
                if (ahead == rank) {
                    return cells[CLOCKS + k];
                }
            }
            return NONE;
        }
    }

    /** A text that was read: its handlers and conditions as one row of orders, values first, what uses them behind. */
    private static final class Program {
        static final int MOST = 700;
        static final int START = 0;
        static final int PRESSES = 1;
        static final int CLOCKS = 9;
        static final int ANSWERS = 13;
        static final int EVENTS = 17;

        static final int NUMBER = 0;
        static final int NAME = 1;
        static final int GOT = 2;
        static final int ROW = 3;
        static final int NOT = 4;
        static final int PLUS = 5;
        static final int MINUS = 6;
        static final int TIMES = 7;
        static final int OVER = 8;
        static final int LEAST = 9;
        static final int GREATEST = 10;
        static final int LESS = 11;
        static final int MORE = 12;
        static final int SAME = 13;
        static final int AND = 14;
        static final int OR = 15;
        static final int END = 16;
        static final int SKIP = 17;
        static final int SET = 18;
        static final int SHOW = 19;
        static final int HIDE = 20;
        static final int DIM = 21;
        static final int LIVE = 22;
        static final int WIND = 23;
        static final int ASK = 24;
        static final int STOP = 25;
        static final int SAVE = 26;
        static final int FAIL = 27;

        final int[] orders = new int[MOST];
        final int[] marks = new int[MOST];
        final int[] entries = new int[EVENTS];
        int length = 0;
        int steps = 0;
        int handlers = 0;
        int asked = 0;
        int harm = NONE;
        int place = NONE;

        Program() {
            Arrays.fill(entries, NONE);
        }

        void empties() {
            Arrays.fill(entries, NONE);
            length = 0;
            steps = 0;
            handlers = 0;
            asked = 0;
            harm = NONE;
            place = NONE;
        }

        int adds(int order, int mark) {
            if (length >= MOST) {
                return NONE;
            }
            orders[length] = order;
            marks[length] = mark;
            asked |= order == ASK ? 1 << mark : 0;
            length++;
            return length - 1;
        }

        void lands(int skip) {
            if (skip >= 0 && skip < length) {
                marks[skip] = length;
            }
        }

        boolean isIdle(int code) {
            return code < THINGS && entries[PRESSES + code] < 0;
        }
    }

    /** Reads a text from the left; with the first fault it stands at the end, where nothing more is found. */
    private static final class Reader {
        static final int MOST_STEPS = 60;
        static final int MOST_OPEN = 6;
        static final int MOST_NUMBER = 999;
        static final int WRONG = 1;
        static final int BIG = 2;
        static final int MANY = 3;
        static final int AGAIN = 4;
        static final int JOIN = 0;
        static final int FACTOR = 1;
        static final int UNIT = 2;

        private final int[] text;
        private int length = 0;
        private int cursor = 0;
        private int open = 0;
        private int kind = 0;
        private Program out;
        int place = NONE;

        Reader(int[] text, Program out) {
            this.text = text;
            this.out = out;
        }

        /** The fault's kind, 0 without. */
        int reads(int n, Program into) {
            length = Math.min(n, text.length);
            cursor = 0;
            open = 0;
            kind = 0;
            place = NONE;
            out = into;
            out.empties();
            for (int k = 0; k <= length && !isAtEnd(); k++) {
                int at = cursor;
                if (takesWord("on")) {
                    handler(at);
                } else if (takesWord("harm")) {
                    out.harm = out.length;
                    finishes();
                } else if (takesWord("place")) {
                    out.place = out.length;
                    finishes();
                } else {
                    faults(WRONG, at);
                }
            }
            return kind;
        }

        private void finishes() {
            truth(JOIN);
            out.adds(Program.END, 0);
            needs(';');
        }

        private void handler(int on) {
            int told = event();
            if (kind != 0) {
                return;
            }
            if (out.entries[told] >= 0) {
                faults(AGAIN, on);
                return;
            }
            needs('{');
            out.entries[told] = out.length;
            out.handlers++;
            for (int k = 0; k <= length && kind == 0 && !takesSign('}'); k++) {
                oneStep();
            }
            out.adds(Program.END, 0);
        }

        private int event() {
            if (takesWord("start")) {
                return Program.START;
            }
            if (takesWord("press")) {
                return Program.PRESSES + digit(THINGS);
            }
            if (takesWord("clock")) {
                return Program.CLOCKS + digit(LINES);
            }
            if (takesWord("answer")) {
                return Program.ANSWERS + digit(LINES);
            }
            faults(WRONG, cursor);
            return Program.START;
        }

        private void oneStep() {
            skips();
            int at = cursor;
            int letter = letter();
            int order = letter >= 0 ? Program.SET : stepWord();
            if (order < 0) {
                faults(WRONG, at);
                return;
            }
            out.steps++;
            if (out.steps > MOST_STEPS) {
                faults(MANY, at);
                return;
            }
            if (order == Program.SKIP) {
                if (opens(at)) {
                    truth(JOIN);
                    int skip = out.adds(Program.SKIP, 0);
                    oneStep();
                    out.lands(skip);
                    open--;
                }
                return;
            }
            int mark = letter;
            if (order == Program.SET) {
                needs('=');
            } else if (order != Program.FAIL) {
                mark = digit(order <= Program.LIVE ? THINGS : LINES);
            }
            if (order == Program.WIND) {
                mark = mark * Page.HOURS + number();
            } else if (order == Program.SET || order == Program.ASK || order == Program.SAVE) {
                value(JOIN);
            }
            out.adds(order, mark);
            needs(';');
        }

        private int stepWord() {
            if (takesWord("show")) {
                return Program.SHOW;
            }
            if (takesWord("hide")) {
                return Program.HIDE;
            }
            if (takesWord("grey")) {
                return Program.DIM;
            }
            if (takesWord("live")) {
                return Program.LIVE;
            }
            if (takesWord("clock")) {
                return Program.WIND;
            }
            if (takesWord("ask")) {
                return Program.ASK;
            }
            if (takesWord("stop")) {
                return Program.STOP;
            }
            if (takesWord("save")) {
                return Program.SAVE;
            }
            if (takesWord("fail")) {
                return Program.FAIL;
            }
            return takesWord("if") ? Program.SKIP : NONE;
        }

        /** Level 0 joins by or, level 1 by and, level 2 is what they join. */
        private void truth(int level) {
            if (level < UNIT) {
                truth(level + 1);
                String word = level == JOIN ? "or" : "and";
                for (int k = 0; k < length && takesWord(word); k++) {
                    truth(level + 1);
                    out.adds(level == JOIN ? Program.OR : Program.AND, 0);
                }
                return;
            }
            skips();
            int at = cursor;
            if (takesWord("not")) {
                if (opens(at)) {
                    truth(UNIT);
                    out.adds(Program.NOT, 0);
                    open--;
                }
                return;
            }
            if (takesSign('[')) {
                if (opens(at)) {
                    truth(JOIN);
                    needs(']');
                    open--;
                }
                return;
            }
            value(JOIN);
            int order = relation();
            value(JOIN);
            out.adds(order, 0);
        }

        private int relation() {
            if (takesSign('<')) {
                return Program.LESS;
            }
            if (takesSign('>')) {
                return Program.MORE;
            }
            needs('=');
            return Program.SAME;
        }

        /** Level 0 joins by + and -, level 1 by * and /, level 2 is what they join. */
        private void value(int level) {
            if (level < UNIT) {
                value(level + 1);
                for (int k = 0; k < length; k++) {
                    int order = joiner(level);
                    if (order < 0) {
                        return;
                    }
                    value(level + 1);
                    out.adds(order, 0);
                }
                return;
            }
            skips();
            int at = cursor;
            int letter = letter();
            if (letter >= 0) {
                out.adds(Program.NAME, letter);
            } else if (isDigit(cursor)) {
                out.adds(Program.NUMBER, number());
            } else if (takesWord("got")) {
                out.adds(Program.GOT, 0);
            } else if (takesWord("far")) {
                out.adds(Program.ROW, digit(ROWS));
            } else if (takesSign('(')) {
                if (opens(at)) {
                    value(JOIN);
                    needs(')');
                    open--;
                }
            } else {
                boolean isLeast = takesWord("least");
                if (!isLeast && !takesWord("most")) {
                    faults(WRONG, at);
                    return;
                }
                skips();
                at = cursor;
                needs('(');
                if (opens(at)) {
                    value(JOIN);
                    needs(',');
                    value(JOIN);
                    needs(')');
                    open--;
                }
                out.adds(isLeast ? Program.LEAST : Program.GREATEST, 0);
            }
        }

        private int joiner(int level) {
            skips();
            int sign = cursor < length ? text[cursor] : ' ';
            int order = NONE;
            if (level == FACTOR) {
                order = sign == '*' ? Program.TIMES : sign == '/' ? Program.OVER : NONE;
            } else {
                order = sign == '+' ? Program.PLUS : sign == '-' ? Program.MINUS : NONE;
            }
            if (order >= 0) {
                cursor++;
            }
            return order;
        }

        /** Refuses what would stand deeper than six open ones, and all behind a fault. */
        private boolean opens(int at) {
            if (open >= MOST_OPEN) {
                faults(MANY, at);
            }
            if (kind != 0) {
                return false;
            }
            open++;
            return true;
        }

        private int digit(int limit) {
            skips();
            int at = cursor;
            if (!isDigit(at)) {
                faults(WRONG, at);
                return 0;
            }
            int found = text[at] - '0';
            if (isDigit(at + 1) || found >= limit) {
                faults(BIG, at);
                return 0;
            }
            cursor = at + 1;
            return found;
        }

        private int number() {
            skips();
            int at = cursor;
            if (!isDigit(at)) {
                faults(WRONG, at);
                return 0;
            }
            int found = 0;
            for (int k = at; k < length && isDigit(k); k++) {
                found = Math.min(found * 10 + text[k] - '0', MOST_NUMBER + 1);
                cursor = k + 1;
            }
            if (found > MOST_NUMBER) {
                faults(BIG, at);
                return 0;
            }
            return found;
        }

        private int letter() {
            skips();
            if (!isSmall(cursor) || isSmall(cursor + 1) || text[cursor] > 'h') {
                return NONE;
            }
            int found = text[cursor] - 'a';
            cursor++;
            return found;
        }

        private boolean takesWord(String word) {
            skips();
            int size = word.length();
            for (int k = 0; k < size; k++) {
                if (cursor + k >= length || text[cursor + k] != word.charAt(k)) {
                    return false;
                }
            }
            if (isSmall(cursor + size)) {
                return false;
            }
            cursor += size;
            return true;
        }

        private boolean takesSign(char sign) {
            skips();
            if (cursor >= length || text[cursor] != sign) {
                return false;
            }
            cursor++;
            return true;
        }

        private void needs(char sign) {
            skips();
            if (cursor < length && text[cursor] == sign) {
                cursor++;
            } else {
                faults(WRONG, cursor);
            }
        }

        private boolean isAtEnd() {
            skips();
            return cursor >= length;
        }

        private void skips() {
            for (int k = cursor; k < length && text[k] == ' '; k++) {
                cursor = k + 1;
            }
        }

        private boolean isDigit(int at) {
            return at >= 0 && at < length && text[at] >= '0' && text[at] <= '9';
        }

        private boolean isSmall(int at) {
            return at >= 0 && at < length && text[at] >= 'a' && text[at] <= 'z';
        }

        private void faults(int sort, int at) {
            if (kind == 0) {
                kind = sort;
                place = at;
            }
            cursor = length;
        }
    }

    /** The forms, and what those that are on do to things and lines. */
    private static final class Forms {
        static final int SORTS = 3;
        static final int BAR = 0;
        static final int LATEST = 1;
        static final int MOST = 6;
        static final int SETS = 64;

        final int[] sorts = new int[MOST];
        final int[] things = new int[MOST];
        final int[] lines = new int[MOST];
        final int[] prices = new int[MOST];
        final int[] bars = new int[THINGS];
        int count = 0;
        int on = 0;
        int latest = 0;
        int fresh = 0;
        private final int[] ranks = new int[SETS];
        private final long[] works = new long[SETS];
        private int worksKept = 0;

        int adds(int sort, int thing, int line, int price) {
            if (count >= MOST) {
                return NONE;
            }
            sorts[count] = sort;
            things[count] = sort == BAR ? thing : 0;
            lines[count] = line;
            prices[count] = price;
            count++;
            return count - 1;
        }

        void turns(int set) {
            on = set;
            latest = 0;
            fresh = 0;
            Arrays.fill(bars, 0);
            for (int k = 0; k < count; k++) {
                if ((set >> k & 1) == 0) {
                    continue;
                }
                int bit = 1 << lines[k];
                if (sorts[k] == BAR) {
                    bars[things[k]] |= bit;
                } else if (sorts[k] == LATEST) {
                    latest |= bit;
                } else {
                    fresh |= bit;
                }
            }
        }

        int priceOf(int set) {
            int sum = 0;
            for (int k = 0; k < count; k++) {
                if ((set >> k & 1) != 0) {
                    sum += prices[k];
                }
            }
            return sum;
        }

        /** By the price, then by how many, then by the least form that only one of two sets has. */
        void ranksSets() {
            for (int set = 0; set < 1 << count && set < SETS; set++) {
                int forward = 0;
                for (int k = 0; k < count; k++) {
                    forward |= (set >> k & 1) << MOST - 1 - k;
                }
                ranks[set] = (priceOf(set) * 8 + Integer.bitCount(set)) * SETS + SETS - 1 - forward;
            }
            worksKept = 0;
        }

        /** The set that comes next behind the last one (NONE: the first of all), by their ranks; NONE if there is none. */
        int nextSet(int last) {
            int floor = last < 0 || last >= SETS ? NONE : ranks[last];
            int best = NONE;
            for (int set = 0; set < 1 << count && set < SETS; set++) {
                if (ranks[set] > floor && (best < 0 || ranks[set] < ranks[best])) {
                    best = set;
                }
            }
            return best;
        }

        /** Whether no set ahead worked alike: forms on lines that are never asked do nothing. */
        boolean isNewWork(int asked) {
            long work = (long) (latest & asked) << 4 | fresh & asked;
            for (int k = 0; k < THINGS; k++) {
                work = work << 4 | bars[k] & asked;
            }
            for (int k = 0; k < worksKept; k++) {
                if (works[k] == work) {
                    return false;
                }
            }
            if (worksKept < SETS) {
                works[worksKept] = work;
                worksKept++;
            }
            return true;
        }
    }

    /** Lets happenings come to a page, and keeps what the latest of them touched. */
    private static final class Hand {
        static final int DEEPEST = 64;
        static final int THING_ITEMS = 8;
        static final int ROW_ITEMS = 16;
        static final int LINE_ITEMS = 20;

        final Forms forms;
        final int[] stack = new int[DEEPEST];
        Program program;
        int reads = 0;
        int writes = 0;
        /** Far rows that somebody else saved last and that were not asked for since; a save to one of them loses a word. */
        int stale = 0;
        int losses = 0;
        private int got = 0;
        private int number = NONE;
        private int top = 0;

        Hand(Forms forms, Program program) {
            this.forms = forms;
            this.program = program;
        }

        boolean may(Page page, int code) {
            if (code < CLOCK_CODE) {
                int bars = forms.bars[code];
                return (page.freeThings() >> code & 1) != 0 && (bars == 0 || (bars & page.busyLines()) == 0);
            }
            if (code == CLOCK_CODE) {
                return page.ticking() > 0;
            }
            return page.waiting(code - LINE_CODES) > 0;
        }

        void begins(Page page) {
            page.blanks();
            readies(NONE);
            works(page, program.entries[Program.START]);
        }

        /** The start of a page that bears something already. */
        void starts(Page page) {
            readies(NONE);
            works(page, program.entries[Program.START]);
        }

        /** By which happening it was begot; the number is that which those it begets bear. */
        int happens(Page page, int code, int number) {
            readies(number);
            int begetter = NONE;
            int entry = NONE;
            int clock = page.soonest();
            page.ages();
            if (code < CLOCK_CODE) {
                reads = 1 << THING_ITEMS + code;
                entry = program.entries[Program.PRESSES + code];
            } else if (code > CLOCK_CODE) {
                int line = code - LINE_CODES;
                boolean isUnheard = page.waiting(line) > 1 && (forms.latest >> line & 1) != 0;
                begetter = page.asker(line);
                got = page.givesAnswer(line);
                writes = 1 << LINE_ITEMS + line;
                entry = isUnheard ? NONE : program.entries[Program.ANSWERS + line];
            } else if (clock >= 0) {
                begetter = page.cells[Page.SETTERS + clock];
                entry = program.entries[Program.CLOCKS + page.cells[Page.CLOCKS + clock] / Page.HOURS];
                page.dropsClock(clock);
            }
            works(page, entry);
            return begetter;
        }

        boolean isBad(Page page) {
            if (page.isBroken() || program.harm < 0 || !page.isQuiet()) {
                return page.isBroken();
            }
            got = 0;
            works(page, program.harm);
            return stack[0] != 0;
        }

        boolean isGood(Page page) {
            if (program.place < 0) {
                return true;
            }
            got = 0;
            works(page, program.place);
            return stack[0] != 0;
        }

        private void readies(int by) {
            reads = 0;
            writes = 0;
            got = 0;
            number = by;
        }

        /** Skips only lead on, so that the row of orders ends. */
        private void works(Page page, int from) {
            top = 0;
            for (int at = from; at >= 0 && at < program.length; at++) {
                int order = program.orders[at];
                int mark = program.marks[at];
                if (order < Program.END) {
                    thinks(page, order, mark);
                } else if (order == Program.END) {
                    return;
                } else if (order == Program.SKIP) {
                    if (pops() == 0) {
                        at = Math.max(at, mark - 1);
                    }
                } else if (!does(page, order, mark)) {
                    page.cells[Page.BROKEN] = 1;
                    return;
                }
            }
        }

        private void thinks(Page page, int order, int mark) {
            int value = 0;
            if (order == Program.NUMBER) {
                value = mark;
            } else if (order == Program.NAME) {
                reads |= 1 << mark;
                value = page.cells[mark];
            } else if (order == Program.GOT) {
                value = got;
            } else if (order == Program.ROW) {
                reads |= 1 << ROW_ITEMS + mark;
                stale &= ~(1 << mark);
                value = page.cells[Page.FAR + mark];
            } else if (order == Program.NOT) {
                value = 1 - pops();
            } else {
                int right = pops();
                value = joined(order, pops(), right);
            }
            if (top >= 0 && top < DEEPEST) {
                stack[top] = value;
                top++;
            }
        }

        private int joined(int order, int left, int right) {
            switch (order) {
                case Program.PLUS:
                    return left + right;
                case Program.MINUS:
                    return left - right;
                case Program.TIMES:
                    return left * right;
                case Program.OVER:
                    return right == 0 ? 0 : left / right;
                case Program.LEAST:
                    return Math.min(left, right);
                case Program.GREATEST:
                    return Math.max(left, right);
                case Program.LESS:
                    return left < right ? 1 : 0;
                case Program.MORE:
                    return left > right ? 1 : 0;
                case Program.SAME:
                    return left == right ? 1 : 0;
                case Program.AND:
                    return left & right;
                default:
                    return left | right;
            }
        }

        /** False if the handler fails there. */
        private boolean does(Page page, int order, int mark) {
            switch (order) {
                case Program.SET:
                    writes |= 1 << mark;
                    page.cells[mark] = pops();
                    return true;
                case Program.WIND:
                    return page.takesClock(mark, number);
                case Program.ASK:
                    if ((forms.fresh >> mark & 1) != 0) {
                        page.empties(mark);
                    }
                    if (!page.takesAnswer(mark, pops(), number)) {
                        return false;
                    }
                    writes |= 1 << LINE_ITEMS + mark;
                    return true;
                case Program.STOP:
                    writes |= 1 << LINE_ITEMS + mark;
                    page.empties(mark);
                    return true;
                case Program.SAVE:
                    writes |= 1 << ROW_ITEMS + mark;
                    losses += stale >> mark & 1;
                    stale &= ~(1 << mark);
                    page.cells[Page.FAR + mark] = pops();
                    return true;
                case Program.FAIL:
                    return false;
                default:
                    shades(page, order, mark);
                    return true;
            }
        }

        private void shades(Page page, int order, int thing) {
            int bit = 1 << thing;
            writes |= bit << THING_ITEMS;
            if (order == Program.SHOW) {
                page.cells[Page.THERE] |= bit;
            } else if (order == Program.HIDE) {
                page.cells[Page.THERE] &= ~bit;
            } else if (order == Program.DIM) {
                page.cells[Page.GREY] |= bit;
            } else {
                page.cells[Page.GREY] &= ~bit;
            }
        }

        private int pops() {
            if (top <= 0 || top > DEEPEST) {
                return 0;
            }
            top--;
            return stack[top];
        }
    }

    /** The run: its page, its happenings, what they touched and how they are ordered. */
    private static final class Track {
        static final int MOST = 40;
        static final int SORTS = 5;
        static final int LEFT_OUT = 0;
        static final int AS_BEFORE = 1;
        static final int MOMENT = 2;
        static final int LASTING = 3;
        static final int FAILURE = 4;

        final Page page = new Page();
        final int[] codes = new int[MOST];
        final int[] begetters = new int[MOST];
        final int[] reads = new int[MOST];
        final int[] writes = new int[MOST];
        int count = 0;
        private final Hand hand;
        private final Page other = new Page();
        private final long[] ahead = new long[MOST];
        private final int[] free = new int[MOST + 1];
        private final int[] shown = new int[(MOST + 1) * Page.SHOWN];
        private final int[] otherShown = new int[MOST * Page.SHOWN];
        private int otherCount = 0;
        private final int[] tally = new int[SORTS];
        private boolean isTallied = false;

        Track(Hand hand) {
            this.hand = hand;
        }

        void begins() {
            hand.begins(page);
            count = 0;
            keepsShown();
            isTallied = false;
        }

        int adds(int code) {
            if (count >= MOST) {
                return NONE;
            }
            int k = count;
            codes[k] = code;
            begetters[k] = hand.happens(page, code, k);
            reads[k] = hand.reads;
            writes[k] = hand.writes;
            ahead[k] = allAhead(k);
            count++;
            keepsShown();
            isTallied = false;
            return k;
        }

        boolean isAhead(int i, int j) {
            return i < j && (ahead[j] >> i & 1L) != 0;
        }

        /** The items for which i and the later j are a crossing, as bits; 0 if they are none. */
        int crossed(int i, int j) {
            if (i == j || isAhead(i, j)) {
                return 0;
            }
            return writes[i] & (reads[j] | writes[j]) | writes[j] & (reads[i] | writes[i]);
        }

        int crossingCount() {
            int sum = 0;
            for (int i = 0; i < count; i++) {
                for (int j = i + 1; j < count; j++) {
                    if (crossed(i, j) != 0) {
                        sum++;
                    }
                }
            }
            return sum;
        }

        int crossingAt(int k) {
            int left = k;
            for (int i = 0; i < count && k >= 0; i++) {
                for (int j = i + 1; j < count; j++) {
                    if (crossed(i, j) == 0) {
                        continue;
                    }
                    if (left == 0) {
                        return 64 * i + j;
                    }
                    left--;
                }
            }
            return NONE;
        }

        int tallyOf(int sort) {
            if (!isTallied) {
                Arrays.fill(tally, 0);
                for (int i = 0; i < count; i++) {
                    for (int j = i + 1; j < count; j++) {
                        if (crossed(i, j) != 0) {
                            tally[turned(i, j)]++;
                        }
                    }
                }
                isTallied = true;
            }
            return tally[sort];
        }

        void forgetsTally() {
            isTallied = false;
        }

        int turned(int i, int j) {
            hand.begins(other);
            otherCount = 0;
            for (int k = 0; k < i; k++) {
                comesAgain(k);
            }
            for (int k = i + 1; k < j; k++) {
                if (isAhead(k, j)) {
                    comesAgain(k);
                }
            }
            if (!comesAgain(j)) {
                return LEFT_OUT;
            }
            comesAgain(i);
            for (int k = i + 1; k < j; k++) {
                if (!isAhead(k, j)) {
                    comesAgain(k);
                }
            }
            for (int k = j + 1; k < count; k++) {
                comesAgain(k);
            }
            if (other.isBroken() && !page.isBroken()) {
                return FAILURE;
            }
            if (!other.isAlike(page)) {
                return LASTING;
            }
            return isStrange() ? MOMENT : AS_BEFORE;
        }

        private boolean comesAgain(int k) {
            if (!hand.may(other, codes[k]) || otherCount >= MOST) {
                return false;
            }
            hand.happens(other, codes[k], NONE);
            System.arraycopy(other.cells, 0, otherShown, otherCount * Page.SHOWN, Page.SHOWN);
            otherCount++;
            return true;
        }

        private boolean isStrange() {
            for (int k = 0; k < otherCount; k++) {
                boolean isKnown = false;
                for (int seen = 0; seen <= count && !isKnown; seen++) {
                    isKnown = isSameShown(k * Page.SHOWN, seen * Page.SHOWN);
                }
                if (!isKnown) {
                    return true;
                }
            }
            return false;
        }

        private boolean isSameShown(int mine, int theirs) {
            for (int k = 0; k < Page.SHOWN; k++) {
                if (otherShown[mine + k] != shown[theirs + k]) {
                    return false;
                }
            }
            return true;
        }

        private void keepsShown() {
            free[count] = page.freeThings();
            System.arraycopy(page.cells, 0, shown, count * Page.SHOWN, Page.SHOWN);
        }

        private long allAhead(int j) {
            long all = 0;
            int freer = freed(j);
            for (int i = 0; i < j; i++) {
                boolean isLike = codes[j] >= CLOCK_CODE && codes[i] == codes[j];
                if (isLike || i == begetters[j] || i == freer) {
                    all |= 1L << i | ahead[i];
                }
            }
            return all;
        }

        /** The latest happening that made the pressed thing free; NONE if it is no press, or was free from the start on. */
        private int freed(int j) {
            if (codes[j] >= CLOCK_CODE) {
                return NONE;
            }
            int bit = 1 << codes[j];
            for (int i = j - 1; i >= 0; i--) {
                if ((free[i + 1] & bit) != 0 && (free[i] & bit) == 0) {
                    return i;
                }
            }
            return NONE;
        }
    }

    /** Pages that were met, each once. */
    private static final class Met {
        static final int ROOM = 2048;
        static final int TABLE = 8192;

        int size = 0;
        private final int[] cells = new int[ROOM * Page.ALIKE];
        private final int[] table = new int[TABLE];
        private final int[] slots = new int[ROOM];
        private int slot = 0;
        private int used = Page.ALIKE;

        void empties() {
            for (int k = 0; k < size; k++) {
                table[slots[k]] = 0;
            }
            size = 0;
        }

        /** Its number, or NONE; the slot where it would stand is kept for the next add. */
        int seeks(Page page) {
            used = page.isQuiet() ? Page.ANSWERS : Page.ALIKE;
            slot = hash(page);
            for (int k = 0; k < TABLE; k++) {
                int found = table[slot] - 1;
                if (found < 0) {
                    return NONE;
                }
                if (isAt(found, page)) {
                    return found;
                }
                slot = slot + 1 & TABLE - 1;
            }
            return NONE;
        }

        /** Only behind a seek for the same page that found none. */
        int adds(Page page) {
            if (size >= ROOM || table[slot] != 0) {
                return NONE;
            }
            System.arraycopy(page.cells, 0, cells, size * Page.ALIKE, Page.ALIKE);
            slots[size] = slot;
            size++;
            table[slot] = size;
            return size - 1;
        }

        void copies(int k, Page into) {
            if (k >= 0 && k < size) {
                System.arraycopy(cells, k * Page.ALIKE, into.cells, 0, Page.ALIKE);
            }
        }

        /** Where nothing is to come, all cells of answers and clocks are 0, and are not looked at. */
        private boolean isAt(int found, Page page) {
            int from = found * Page.ALIKE;
            for (int k = 0; k < used; k++) {
                if (cells[from + k] != page.cells[k]) {
                    return false;
                }
            }
            return true;
        }

        private int hash(Page page) {
            int sum = 0;
            for (int k = 0; k < used; k++) {
                sum = sum * 31 + page.cells[k];
            }
            sum *= 0x9E3779B1;
            return sum >>> 19 & TABLE - 1;
        }
    }

    /** All rows of happenings from a begun page, by their length, then by their codes. */
    private static final class Search {
        static final int NEVER = 9;
        static final int NO_ROOM = -2;

        int found = 0;
        boolean spent = false;
        private final Hand hand;
        private final Met met = new Met();
        private final Page from = new Page();
        private final Page page = new Page();
        private final Page[] loose = {new Page(), new Page(), new Page()};
        private final int[] parents = new int[MOST_PAGES];
        private final int[] codes = new int[MOST_PAGES];
        private final int[] next = new int[Met.ROOM * CODES];
        private final boolean[] isSpread = new boolean[Met.ROOM];
        private final int[] near = new int[Met.ROOM];
        private final int[] tried = new int[Met.ROOM];
        private int first = NONE;
        private int most = 0;
        private boolean isWhole = false;
        private int rowsKey = NONE;
        private final int[] badRow = new int[LONGEST];
        private int badLength = NONE;

        Search(Hand hand) {
            this.hand = hand;
        }

        void forgetsRows() {
            rowsKey = NONE;
        }

        void forgetsBadRow() {
            badLength = NONE;
        }

        /** A search that is whole goes on behind the first page that is spoilt. */
        void goes(int n, int pages, boolean whole) {
            int key = n * 1024 + pages;
            if (key == rowsKey && (isWhole || !whole)) {
                return;
            }
            rowsKey = key;
            isWhole = whole;
            most = Math.min(pages, MOST_PAGES);
            spent = false;
            met.empties();
            hand.begins(page);
            met.seeks(page);
            addsMet(NONE, NONE);
            first = hand.isBad(page) ? 0 : NONE;
            int at = 0;
            int to = met.size;
            for (int depth = 0; depth < n && at < to; depth++) {
                for (int k = at; k < to && !isOver(); k++) {
                    spreads(k, false);
                }
                at = to;
                to = isOver() ? at : met.size;
            }
            found = met.size;
        }

        int answer() {
            if (first < 0) {
                return spent ? SPENT : NONE;
            }
            return depthOf(first);
        }

        int codeAt(int k) {
            int depth = first < 0 ? 0 : depthOf(first);
            if (k < 0 || k >= depth) {
                return NONE;
            }
            int at = first;
            for (int up = depth - 1; up > k; up--) {
                at = parents[at];
            }
            return codes[at];
        }

        /** Of the pages that the search met, till enough are found; those only met beyond its rows are not asked. */
        int stuckCount(int m, int enough) {
            if (hand.program.place < 0) {
                return 0;
            }
            Arrays.fill(near, 0, met.size, NEVER);
            Arrays.fill(tried, 0, met.size, NONE);
            int sum = 0;
            for (int k = 0; k < found && sum < enough; k++) {
                if (!gets(k, m)) {
                    sum++;
                }
            }
            return sum;
        }

        /** Whether no row spoils. A row that spoilt with the forms ahead is tried first: mostly it spoils again. */
        boolean isClean(int n, int pages) {
            if (badLength >= 0 && spoilsAgain()) {
                return false;
            }
            forgetsRows();
            goes(n, pages, false);
            if (first >= 0) {
                badLength = depthOf(first);
                for (int k = 0; k < badLength; k++) {
                    badRow[k] = codeAt(k);
                }
            }
            return first < 0 && !spent;
        }

        private boolean spoilsAgain() {
            hand.begins(page);
            for (int k = 0; k < badLength; k++) {
                if (hand.may(page, badRow[k])) {
                    hand.happens(page, badRow[k], NONE);
                }
            }
            return hand.isBad(page);
        }

        private boolean isOver() {
            return spent || first >= 0 && !isWhole;
        }

        private int depthOf(int k) {
            int depth = 0;
            int at = k;
            for (int up = 0; up < LONGEST && at > 0; up++) {
                at = parents[at];
                depth++;
            }
            return depth;
        }

        /** Where each code leads; presses without a handler all lead to the same page. */
        private void spreads(int k, boolean isBeyond) {
            met.copies(k, from);
            int still = from.ticking() == 0 ? k : NONE;
            for (int code = 0; code < CODES; code++) {
                boolean isIdle = hand.program.isIdle(code);
                int to = NONE;
                if (hand.may(from, code)) {
                    to = still;
                    if (!isIdle || still < 0) {
                        page.copies(from);
                        hand.happens(page, code, NONE);
                        to = met.seeks(page);
                        if (to < 0) {
                            to = isBeyond ? addsBeyond() : addsMet(k, code);
                            first = first < 0 && to >= 0 && !isBeyond && hand.isBad(page) ? to : first;
                        }
                    }
                    still = isIdle && to >= 0 ? to : still;
                }
                next[k * CODES + code] = to;
                if (!isBeyond && isOver()) {
                    return;
                }
            }
            isSpread[k] = true;
        }

        private int addsMet(int parent, int code) {
            if (met.size >= most) {
                spent = true;
                return NONE;
            }
            int k = met.adds(page);
            if (k >= 0) {
                parents[k] = parent;
                codes[k] = code;
                isSpread[k] = false;
            }
            return k;
        }

        /** Pages that only stand behind the rows don't count, but are kept while there is room. */
        private int addsBeyond() {
            int k = met.adds(page);
            if (k < 0) {
                return NO_ROOM;
            }
            isSpread[k] = false;
            near[k] = NEVER;
            tried[k] = NONE;
            return k;
        }

        /** Whether a page for which place holds is reached by so many more. */
        private boolean gets(int k, int more) {
            if (near[k] <= more || tried[k] >= more) {
                return near[k] <= more;
            }
            if (tried[k] < 0) {
                met.copies(k, page);
                if (hand.isGood(page)) {
                    near[k] = 0;
                    return true;
                }
                tried[k] = 0;
            }
            Page start = loose[MOST_MORE - 1];
            boolean isReached = false;
            if (more == 1 && !isSpread[k]) {
                met.copies(k, start);
                isReached = reaches(start, 1);
            } else if (more > 0) {
                if (!isSpread[k]) {
                    spreads(k, true);
                }
                for (int code = 0; code < CODES && !isReached; code++) {
                    int to = next[k * CODES + code];
                    if (to == NO_ROOM) {
                        met.copies(k, start);
                        hand.happens(start, code, NONE);
                        isReached = reaches(start, more - 1);
                    } else {
                        isReached = to >= 0 && to != k && gets(to, more - 1);
                    }
                }
            }
            if (isReached) {
                near[k] = more;
            } else {
                tried[k] = more;
            }
            return isReached;
        }

        /** As above, but without keeping the pages on the way: for the last of them, and where there is no room left. */
        private boolean reaches(Page start, int more) {
            if (hand.isGood(start)) {
                return true;
            }
            if (more <= 0 || more >= MOST_MORE) {
                return false;
            }
            Page then = loose[more - 1];
            boolean isStill = start.ticking() == 0;
            for (int code = 0; code < CODES; code++) {
                boolean isIdle = hand.program.isIdle(code);
                if (isIdle && isStill || !hand.may(start, code)) {
                    continue;
                }
                isStill = isStill || isIdle;
                then.copies(start);
                hand.happens(then, code, NONE);
                if (reaches(then, more - 1)) {
                    return true;
                }
            }
            return false;
        }
    }

    /** Two windows over the same far rows; behind the two that are used stand those with which losses are sought. */
    private static final class Pair {
        static final int START = -1;
        static final int SOUGHT = 2;
        static final int ALL = 2 + 2 * (MOST_MORE + 1);

        final Page[] pages = new Page[ALL];
        int losses = 0;
        private final Hand hand;
        private final int[] stale = new int[ALL];
        private int fewest = NONE;
        private int tried = NONE;

        Pair(Hand hand) {
            this.hand = hand;
            for (int k = 0; k < ALL; k++) {
                pages[k] = new Page();
            }
        }

        void begins() {
            losses = starts(0);
        }

        int takes(int window, int code) {
            if (!hand.may(pages[window], code)) {
                return NONE;
            }
            losses += moves(0, window, code);
            return losses;
        }

        void forgetsFewest() {
            fewest = NONE;
            tried = NONE;
        }

        int fewest(int n) {
            for (int depth = tried + 1; depth <= n && fewest < 0; depth++) {
                boolean isLost = starts(SOUGHT) > 0 || loses(SOUGHT, depth);
                if (isLost) {
                    fewest = depth;
                }
                tried = depth;
            }
            return fewest >= 0 && fewest <= n ? fewest : NONE;
        }

        private int starts(int base) {
            pages[base].blanks();
            pages[base + 1].blanks();
            stale[base] = 0;
            stale[base + 1] = 0;
            return moves(base, 0, START) + moves(base, 1, START);
        }

        private int moves(int base, int window, int code) {
            Page page = pages[base + window];
            Page other = pages[base + 1 - window];
            hand.stale = stale[base + window];
            hand.losses = 0;
            if (code == START) {
                hand.starts(page);
            } else {
                hand.happens(page, code, NONE);
            }
            stale[base + window] = hand.stale;
            stale[base + 1 - window] |= hand.writes >> Hand.ROW_ITEMS & 15;
            System.arraycopy(page.cells, Page.FAR, other.cells, Page.FAR, ROWS);
            hand.stale = 0;
            return hand.losses;
        }

        /** Presses without a handler change nothing but clocks, so that one of them is enough. */
        private boolean loses(int base, int left) {
            int then = base + 2;
            if (left <= 0 || then + 1 >= ALL) {
                return false;
            }
            for (int window = 0; window < 2; window++) {
                Page page = pages[base + window];
                boolean isStill = page.ticking() == 0;
                for (int code = 0; code < CODES; code++) {
                    boolean isIdle = hand.program.isIdle(code);
                    if (isIdle && isStill || !hand.may(page, code)) {
                        continue;
                    }
                    isStill = isStill || isIdle;
                    pages[then].copies(pages[base]);
                    pages[then + 1].copies(pages[base + 1]);
                    stale[then] = stale[base];
                    stale[then + 1] = stale[base + 1];
                    if (moves(then, window, code) > 0 || loses(then, left - 1)) {
                        return true;
                    }
                }
            }
            return false;
        }
    }

    /** The told row of codes. */
    private static final class Row {
        static final int MOST = 40;

        final int[] codes = new int[MOST];
        int count = 0;
        private final Hand hand;
        private final Page page = new Page();

        Row(Hand hand) {
            this.hand = hand;
        }

        int adds(int code) {
            if (count >= MOST) {
                return NONE;
            }
            codes[count] = code;
            count++;
            return count;
        }

        int firstRefused() {
            hand.begins(page);
            for (int k = 0; k < count; k++) {
                if (!hand.may(page, codes[k])) {
                    return k;
                }
                hand.happens(page, codes[k], NONE);
            }
            return NONE;
        }

        int shortens() {
            if (!spoilsWithout(NONE)) {
                return NONE;
            }
            boolean isCut = true;
            for (int round = 0; round <= MOST && isCut; round++) {
                isCut = cutsOnce();
            }
            return count;
        }

        private boolean cutsOnce() {
            int had = count;
            int at = 0;
            for (int k = 0; k < had; k++) {
                if (spoilsWithout(at)) {
                    drops(at);
                } else {
                    at++;
                }
            }
            return count < had;
        }

        private void drops(int at) {
            for (int k = at; k + 1 < count; k++) {
                codes[k] = codes[k + 1];
            }
            count--;
        }

        private boolean spoilsWithout(int left) {
            hand.begins(page);
            for (int k = 0; k < count; k++) {
                if (k != left && hand.may(page, codes[k])) {
                    hand.happens(page, codes[k], NONE);
                }
            }
            return hand.isBad(page);
        }
    }
}
