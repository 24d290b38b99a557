import java.util.Arrays;

/** A quarter of cells in which the shadow of a door is a door. Sets of cells, doors and lamps are bits of a number. */
public final class ShadowDoors {
    public static final int NONE = -1;

    private static final int TAPE_BYTES = 1600;
    private static final int FED_BYTES = 20;
    private static final int NO_SHADE = -1000000;
    private static final int FARTHEST = 48;
    private static final int DAY = 24;
    private static final int DATES = 100;
    private static final int MOST_HOURS = 2000;
    private static final int MOST_WALLS = 24;
    private static final int MOST_DOORS = 8;
    private static final int MOST_LAMPS = 4;
    private static final int MOST_PEOPLE = 4;
    private static final int MOST_CELLS = 64;
    private static final int WIDEST = 8;
    private static final int HIGHEST = 9;
    private static final int MOST_UNITS = 30;
    private static final int DEEPEST = 7;
    private static final int MOST_ACTS = 40;
    private static final int BOXES = 3;
    private static final int MOST_LOOKS = 30;
    private static final int LOOK_HEIGHTS = 4;
    private static final int LONGEST_KEEP = 24;
    private static final int LONGEST_SUREST = 8;
    private static final int MOST_KEPT_SHUT = 3;
    private static final int LATEST = 100000;
    private static final int MOST_LATER = 1000;

    // The words of the text in the order of their kinds; signs are their own kind, which is why no kind here is above 31.
    private static final String WORDS = "size by wall door at high open to lamp lit person shade cloud or and not height hour date ";
    private static final int SIZE = 0;
    private static final int BY = 1;
    private static final int WALL = 2;
    private static final int DOOR = 3;
    private static final int AT = 4;
    private static final int HIGH = 5;
    private static final int OPEN = 6;
    private static final int TO = 7;
    private static final int LAMP = 8;
    private static final int LIT = 9;
    private static final int PERSON = 10;
    private static final int SHADE = 11;
    private static final int CLOUD = 12;
    private static final int OR = 13;
    private static final int AND = 14;
    private static final int NOT = 15;
    private static final int HEIGHT = 16;
    private static final int HOUR = 17;
    private static final int DATE = 18;
    private static final int WORD_KINDS = 19;
    private static final int NAME = 20;
    private static final int NUMBER = 21;
    private static final int END = 22;
    private static final int BAD = 23;
    private static final String SIGNS = ";()<>=+-*/%";
    private static final int WORD_LETTERS = 8;
    private static final int NUMBER_DIGITS = 4;

    private static final int NO_TOKEN = 1;
    private static final int MISPLACED = 2;
    private static final int TAKEN = 3;
    private static final int IMPOSSIBLE = 4;

    // A formula's code: numbers stand for themselves, so what is to be done is below 0.
    private static final int CODE_SIZE = MOST_UNITS * (DEEPEST + 2);
    private static final int DO_BASE = -100;

    private final byte[] tape;
    private int taped;
    private final Reader reader;
    private Quarter town;
    private Quarter draft;
    private final Now now;
    private final Acts acts;
    private final long[] boxes;
    private int boxed;
    private final Sky sky;
    private final Ways ways;
    private final Looks looks;

    public ShadowDoors() {
        tape = new byte[TAPE_BYTES];
        town = new Quarter();
        draft = new Quarter();
        reader = new Reader(new Tokens(tape), draft);
        now = new Now();
        now.begin(town);
        acts = new Acts();
        acts.begin(now.packed());
        boxes = new long[BOXES];
        sky = new Sky(town);
        ways = new Ways(sky);
        looks = new Looks();
    }

    public int feed(int a, int b, int c, int d, int e) {
        if (taped + FED_BYTES > TAPE_BYTES) {
            return NONE;
        }
        putOnTape(a);
        putOnTape(b);
        putOnTape(c);
        putOnTape(d);
        putOnTape(e);
        return taped;
    }

    private void putOnTape(int number) {
        for (int shift = 24; shift >= 0; shift -= 8) {
            if (taped < tape.length) {
                tape[taped] = (byte) (number >>> shift);
                taped++;
            }
        }
    }

    public int end(int n) {
        if (n < 0 || n > taped) {
            return NONE;
        }
        taped = n;
        return n;
    }

    public int quarter() {
        boolean good = reader.readInto(draft, taped);
        taped = 0;
        if (!good) {
            return NONE;
        }
        Quarter old = town;
        town = draft;
        draft = old;
        now.begin(town);
        acts.begin(now.packed());
        boxed = 0;
        sky.forget(town);
        ways.forget();
        looks.forget();
        return town.doors.count;
    }

    public int fault(int what) {
        switch (what) {
            case 0:
                return reader.fault;
            case 1:
                return reader.place;
            default:
                return NONE;
        }
    }

    public int door(int door, int what) {
        if (!town.doors.has(door)) {
            return NONE;
        }
        switch (what) {
            case 0:
                return town.doors.cells[door];
            case 1:
                return town.doors.highs[door];
            case 2:
                return town.doors.isInHours(door, now.hourOfDay()) && !isBit(now.shut, door) ? 1 : 0;
            case 3:
                return isBit(now.shut, door) ? 1 : 0;
            default:
                return NONE;
        }
    }

    public int lamp(int lamp, int what) {
        if (!town.lamps.has(lamp)) {
            return NONE;
        }
        switch (what) {
            case 0:
                return town.lamps.cells[lamp];
            case 1:
                return town.lamps.isInHours(lamp, now.hourOfDay()) && !isBit(now.out, lamp) ? 1 : 0;
            case 2:
                return isBit(now.out, lamp) ? 1 : 0;
            default:
                return NONE;
        }
    }

    public int person(int person, int what) {
        if (!town.people.has(person)) {
            return NONE;
        }
        switch (what) {
            case 0:
                return now.at[person];
            case 1:
                return isBit(now.gone, person) ? 1 : 0;
            default:
                return NONE;
        }
    }

    public int shade(int door, int n) {
        if (!town.doors.has(door) || !isAhead(n)) {
            return NO_SHADE;
        }
        int hours = now.hours + n;
        return town.formula.valueFor(town.doors.highs[door], hours % DAY, hours / DAY);
    }

    public long shadow(int door, int n) {
        if (!town.doors.has(door) || !isAhead(n)) {
            return 0;
        }
        sky.aimAt(now);
        return sky.shadowOf(door, n);
    }

    public long shades(int n, boolean open) {
        if (!isAhead(n)) {
            return 0;
        }
        sky.aimAt(now);
        int wanted = open ? sky.openIn(n) : -1;
        long bits = 0;
        for (int door = 0; door < town.doors.count; door++) {
            if (isBit(wanted, door)) {
                bits |= sky.shadowOf(door, n);
            }
        }
        return bits;
    }

    public long moves(int cell, int n) {
        if (!town.canStand(cell) || !isAhead(n)) {
            return 0;
        }
        sky.aimAt(now);
        return sky.stepFrom(1L << cell, n, 0);
    }

    public int go(int person, int cell) {
        if (!town.people.has(person) || !town.canStand(cell) || isBit(now.gone, person)) {
            return NONE;
        }
        sky.aimAt(now);
        int from = now.at[person];
        if ((sky.stepFrom(1L << from, 0, 0) >>> cell & 1) == 0) {
            return NONE;
        }
        now.at[person] = cell;
        now.gone |= 1 << person;
        acts.add(now.packed());
        if (cell == from) {
            return 0;
        }
        return (town.spread(1L << from) >>> cell & 1) != 0 ? 1 : 2;
    }

    public int hour() {
        if (now.hours >= MOST_HOURS) {
            return NONE;
        }
        now.hours++;
        now.gone = 0;
        acts.add(now.packed());
        return now.hours;
    }

    public int shut(int door) {
        if (!town.doors.has(door)) {
            return NONE;
        }
        now.shut ^= 1 << door;
        acts.add(now.packed());
        return now.shut >>> door & 1;
    }

    public int out(int lamp) {
        if (!town.lamps.has(lamp)) {
            return NONE;
        }
        now.out ^= 1 << lamp;
        acts.add(now.packed());
        return now.out >>> lamp & 1;
    }

    public boolean eclipse() {
        now.eclipse = !now.eclipse;
        acts.add(now.packed());
        return now.eclipse;
    }

    public boolean undo() {
        if (!acts.stepBack()) {
            return false;
        }
        now.unpack(acts.current());
        return true;
    }

    public boolean redo() {
        if (!acts.stepOn()) {
            return false;
        }
        now.unpack(acts.current());
        return true;
    }

    public int soonest(int from, int to) {
        ways.forget();
        if (!town.canStand(from) || !town.canStand(to)) {
            return NONE;
        }
        sky.aimAt(now);
        return ways.layWay(from, to);
    }

    public long reach(int from, int n) {
        if (!town.canStand(from) || !isAhead(n)) {
            return 0;
        }
        sky.aimAt(now);
        return ways.goOn(1L << from, n);
    }

    public int meet(int person, int other, int what) {
        if (!town.people.has(person) || !town.people.has(other) || person == other || !isChoice(what)) {
            return NONE;
        }
        sky.aimAt(now);
        if (!ways.bringTogether(now.at[person], now.at[other])) {
            return NONE;
        }
        return what == 0 ? ways.foundHours : ways.foundCell;
    }

    public long barred(int to, int n) {
        if (!town.canStand(to) || !isAhead(n)) {
            return 0;
        }
        sky.aimAt(now);
        return town.ground & ~ways.comeFrom(1L << to, n);
    }

    public int longest(int door, int what) {
        if (!town.doors.has(door) || !isChoice(what)) {
            return NONE;
        }
        sky.aimAt(now);
        int best = 0;
        int most = 0;
        for (int n = 0; n < DAY; n++) {
            int many = Long.bitCount(sky.shadowOf(door, n));
            if (many > most) {
                most = many;
                best = n;
            }
        }
        return what == 0 ? best : most;
    }

    public int cross(int door, int other, int what) {
        if (!town.doors.has(door) || !town.doors.has(other) || door == other || !isChoice(what)) {
            return NONE;
        }
        sky.aimAt(now);
        for (int n = 0; n <= FARTHEST; n++) {
            int open = sky.openIn(n);
            if (isBit(open, door) && isBit(open, other)) {
                long both = sky.shadowOf(door, n) & sky.shadowOf(other, n);
                if (both != 0) {
                    return what == 0 ? n : Long.numberOfTrailingZeros(both);
                }
            }
        }
        return NONE;
    }

    public int rooms(int n) {
        if (!isAhead(n)) {
            return NONE;
        }
        sky.aimAt(now);
        return ways.countJoined(n);
    }

    public int hears(int cell, int other, int n) {
        if (!town.canStand(cell) || !town.canStand(other) || !isAhead(n)) {
            return NONE;
        }
        sky.aimAt(now);
        return (ways.joinedWith(1L << cell, n) >>> other & 1) != 0 ? 1 : 0;
    }

    public int keep(int from, int to, int n, int what) {
        if (!isJourney(from, to, n, LONGEST_KEEP) || !isChoice(what)) {
            return NONE;
        }
        sky.aimAt(now);
        return toldAs(ways.fewestShut(from, to, n), what);
    }

    public int free(int from, int to, int n, int what) {
        if (!isJourney(from, to, n, LONGEST_KEEP) || !isChoice(what)) {
            return NONE;
        }
        sky.aimAt(now);
        return toldAs(ways.fewestLit(from, to, n), what);
    }

    public long surest(int from, int to, int n, int part) {
        if (!isJourney(from, to, n, LONGEST_SUREST) || !isChoice(part)) {
            return NONE;
        }
        sky.aimAt(now);
        ways.weighOdds(from, to, n);
        return part == 0 ? ways.upper : ways.lower;
    }

    public int dates(int from, int to, int n, int what) {
        if (!isJourney(from, to, n, LONGEST_KEEP)) {
            return NONE;
        }
        if (what < 0 || what > 2) {
            return NONE;
        }
        sky.aimAt(now);
        return ways.countDates(from, to, n, what);
    }

    public int lies(int i) {
        return i >= 0 && i < ways.laid ? ways.way[i] : NONE;
    }

    public int look(int hour, int cell, boolean is) {
        if (hour < 0 || hour >= DAY || !town.canStand(cell)) {
            return NONE;
        }
        return looks.tell(hour, cell, is);
    }

    public boolean untell(int look) {
        return looks.takeBack(look);
    }

    public int later(int by) {
        if (by < 0 || by > MOST_LATER || looks.time + by > LATEST) {
            return NONE;
        }
        looks.time += by;
        return looks.time;
    }

    public int fit(int k) {
        return looks.findFitting(town, k);
    }

    public long places(int k) {
        looks.findFitting(town, k);
        return looks.fittingCells();
    }

    public int heights(int k) {
        looks.findFitting(town, k);
        return looks.fittingHeights();
    }

    public int ask(int what, int k) {
        if (!isChoice(what) || looks.findFitting(town, k) == 0) {
            return NONE;
        }
        looks.findQuestion(town);
        return what == 0 ? looks.question : looks.mostLeft;
    }

    public int image(int box) {
        if (box < 0 || box >= boxes.length) {
            return NONE;
        }
        boxes[box] = now.packed();
        boxed |= 1 << box;
        return now.hours;
    }

    public int back(int box) {
        if (box < 0 || box >= boxes.length || !isBit(boxed, box)) {
            return NONE;
        }
        now.unpack(boxes[box]);
        acts.begin(boxes[box]);
        return now.hours;
    }

    public int about(int what) {
        switch (what) {
            case 0:
                return town.doors.count;
            case 1:
                return town.lamps.count;
            case 2:
                return town.people.count;
            case 3:
                return Long.bitCount(town.walls);
            case 4:
                return town.width;
            case 5:
                return town.depth;
            case 6:
                return now.hourOfDay();
            case 7:
                return now.hours / DAY;
            case 8:
                return now.hours;
            case 9:
                return now.eclipse ? 1 : 0;
            case 10:
                return acts.done;
            case 11:
                return acts.kept - acts.done;
            case 12:
                return looks.count;
            case 13:
                return looks.time;
            case 14:
                return taped;
            case 15:
                return town.formula.units;
            case 16:
                return ways.laid;
            default:
                return NONE;
        }
    }

    private boolean isJourney(int from, int to, int n, int most) {
        return town.canStand(from) && town.canStand(to) && n >= 1 && n <= most;
    }

    private static int toldAs(int bits, int what) {
        if (bits == NONE) {
            return NONE;
        }
        return what == 0 ? Integer.bitCount(bits) : bits;
    }

    private static boolean isAhead(int n) {
        return n >= 0 && n <= FARTHEST;
    }

    private static boolean isChoice(int what) {
        return what == 0 || what == 1;
    }

    private static boolean isBit(int bits, int number) {
        return (bits >>> number & 1) != 0;
    }

    /** What is told of one sort: doors, lamps or people, numbered as told. */
    private static final class Things {
        int count;
        final long[] names;
        final int[] cells;
        final int[] highs;
        final int[] begins;
        final int[] ends;

        Things(int most) {
            names = new long[most];
            cells = new int[most];
            highs = new int[most];
            begins = new int[most];
            ends = new int[most];
        }

        boolean has(int number) {
            return number >= 0 && number < count;
        }

        boolean isFull() {
            return count >= names.length;
        }

        boolean isNamed(long name) {
            for (int i = 0; i < count; i++) {
                if (names[i] == name) {
                    return true;
                }
            }
            return false;
        }

        boolean standAt(int cell) {
            for (int i = 0; i < count; i++) {
                if (cells[i] == cell) {
                    return true;
                }
            }
            return false;
        }

        boolean isInHours(int number, int hour) {
            return hour >= begins[number] && hour < ends[number];
        }

        void add(long name, int cell, int high, int begin, int end) {
            if (isFull()) {
                return;
            }
            names[count] = name;
            cells[count] = cell;
            highs[count] = high;
            begins[count] = begin;
            ends[count] = end;
            count++;
        }
    }

    /** The formula of shade, as code for a stack of numbers. */
    private static final class Formula {
        final int[] code = new int[CODE_SIZE];
        final int[] stack = new int[MOST_UNITS];
        int size;
        int units;
        boolean dated;

        void clear() {
            size = 0;
            units = 0;
            dated = false;
        }

        void addNumber(int number) {
            put(number);
            units++;
        }

        void addUnit(int kind) {
            put(DO_BASE - kind);
            units++;
            dated |= kind == DATE;
        }

        void addDeed(int kind) {
            put(DO_BASE - kind);
        }

        private void put(int what) {
            if (size < code.length) {
                code[size] = what;
                size++;
            }
        }

        int valueFor(int height, int hour, int date) {
            int top = 0;
            for (int i = 0; i < size; i++) {
                int kind = DO_BASE - code[i];
                if (kind == NOT) {
                    if (top > 0) {
                        stack[top - 1] = stack[top - 1] == 0 ? 1 : 0;
                    }
                } else if (code[i] >= 0 || kind >= HEIGHT && kind <= DATE) {
                    if (top < stack.length) {
                        stack[top] = code[i] >= 0 ? code[i] : kind == HEIGHT ? height : kind == HOUR ? hour : date;
                        top++;
                    }
                } else if (top > 1) {
                    top--;
                    stack[top - 1] = outcome(kind, stack[top - 1], stack[top]);
                }
            }
            return top > 0 ? stack[0] : 0;
        }

        private static int outcome(int kind, int left, int right) {
            switch (kind) {
                case '+':
                    return left + right;
                case '-':
                    return left - right;
                case '*':
                    return left * right;
                case '/':
                    return right == 0 ? 0 : left / right;
                case '%':
                    return right == 0 ? 0 : left % right;
                case '<':
                    return left < right ? 1 : 0;
                case '>':
                    return left > right ? 1 : 0;
                case '=':
                    return left == right ? 1 : 0;
                case AND:
                    return left != 0 && right != 0 ? 1 : 0;
                default:
                    return left != 0 || right != 0 ? 1 : 0;
            }
        }
    }

    /** A quarter as told, with what follows from the text alone. */
    private static final class Quarter {
        int width;
        int depth;
        int cells;
        long walls;
        long ground;
        private long firstColumn;
        final Things doors = new Things(MOST_DOORS);
        final Things lamps = new Things(MOST_LAMPS);
        final Things people = new Things(MOST_PEOPLE);
        final Formula formula = new Formula();
        int cloud;
        private final long[] thrown = new long[MOST_DOORS * MOST_LAMPS];

        Quarter() {
            clear();
            settle();
        }

        void clear() {
            setSize(6, 6);
            walls = 0;
            doors.count = 0;
            lamps.count = 0;
            people.count = 0;
            formula.clear();
            cloud = 0;
        }

        void setSize(int wide, int deep) {
            width = wide;
            depth = deep;
            cells = wide * deep;
        }

        /** Lamps never move, so what they throw is found once, when the whole text is known. */
        void settle() {
            ground = (cells >= MOST_CELLS ? -1L : (1L << cells) - 1) & ~walls;
            firstColumn = 0;
            for (int row = 0; row < depth; row++) {
                firstColumn |= 1L << row * width;
            }
            for (int door = 0; door < doors.count; door++) {
                for (int lamp = 0; lamp < lamps.count; lamp++) {
                    thrown[door * MOST_LAMPS + lamp] = castBy(lamps.cells[lamp], doors.cells[door], doors.highs[door]);
                }
            }
        }

        boolean canStand(int cell) {
            return cell >= 0 && cell < cells && (ground >>> cell & 1) != 0;
        }

        /** The cells of a row behind a cell: so many to the right of it, or, below 0, to the left; walls too. */
        long rowBits(int cell, int reach) {
            int column = width > 0 ? cell % width : 0;
            if (reach > 0) {
                int length = Math.min(reach, width - 1 - column);
                return (1L << length) - 1 << cell + 1;
            }
            int length = Math.min(-Math.max(reach, -WIDEST), column);
            return (1L << length) - 1 << cell - length;
        }

        private long columnBits(int cell, int reach) {
            int step = reach < 0 ? -width : width;
            int length = Math.abs(reach);
            long bits = 0;
            int at = cell + step;
            for (int i = 0; i < length && at >= 0 && at < cells; i++) {
                bits |= 1L << at;
                at += step;
            }
            return bits;
        }

        private long castBy(int lamp, int door, int high) {
            if (width <= 0) {
                return 0;
            }
            int across = lamp % width - door % width;
            int down = lamp / width - door / width;
            if (across != 0 && down != 0 || lamp == door) {
                return 0;
            }
            // The lamp's own cell is looked at too: it is never a wall.
            long between = down == 0 ? rowBits(door, across) : columnBits(door, down);
            if ((between & walls) != 0) {
                return 0;
            }
            if (down == 0) {
                return rowBits(door, across < 0 ? high : -high) & ground;
            }
            return columnBits(door, down < 0 ? high : -high) & ground;
        }

        long shadowBy(int door, int shade, int lit) {
            long bits = rowBits(doors.cells[door], shade) & ground;
            for (int lamp = 0; lamp < lamps.count; lamp++) {
                if (isBit(lit, lamp)) {
                    bits |= thrown[door * MOST_LAMPS + lamp];
                }
            }
            return bits;
        }

        /** Cells, and those next to them. */
        long spread(long set) {
            long lastColumn = firstColumn << width - 1;
            long beside = (set & ~firstColumn) >>> 1 | (set & ~lastColumn) << 1;
            return (set | beside | set >>> width | set << width) & ground;
        }
    }

    /** The tape's bytes, token by token. */
    private static final class Tokens {
        private final byte[] text;
        private final long[] words = new long[WORD_KINDS];
        private int length;
        private int at;
        int kind;
        int start;
        int number;
        long name;

        Tokens(byte[] tape) {
            text = tape;
            int word = 0;
            for (int i = 0; i < WORDS.length(); i++) {
                char sign = WORDS.charAt(i);
                if (sign == ' ') {
                    word++;
                } else if (word < words.length) {
                    words[word] = withLetter(words[word], sign);
                }
            }
        }

        void begin(int bytes) {
            length = Math.min(bytes, text.length);
            at = 0;
            advance();
        }

        void advance() {
            while (at < length && (text[at] == ' ' || text[at] == '\n')) {
                at++;
            }
            start = at;
            name = 0;
            number = 0;
            while (at < length && isLetter(text[at])) {
                name = withLetter(name, text[at]);
                at++;
            }
            if (at > start) {
                kind = at - start > WORD_LETTERS ? BAD : kindOfWord();
                return;
            }
            while (at < length && isDigit(text[at])) {
                number = number * 10 + (text[at] - '0');
                at++;
            }
            if (at > start) {
                boolean lettered = at < length && isLetter(text[at]);
                kind = at - start > NUMBER_DIGITS || lettered ? BAD : NUMBER;
                return;
            }
            if (at >= length) {
                kind = END;
                return;
            }
            kind = SIGNS.indexOf((char) (text[at] & 255)) >= 0 ? text[at] : BAD;
            at++;
        }

        private int kindOfWord() {
            for (int word = 0; word < words.length; word++) {
                if (words[word] == name) {
                    return word;
                }
            }
            return NAME;
        }

        private static long withLetter(long name, int letter) {
            return name * 32 + (letter - 'a' + 1);
        }

        private static boolean isLetter(int sign) {
            return sign >= 'a' && sign <= 'z';
        }

        private static boolean isDigit(int sign) {
            return sign >= '0' && sign <= '9';
        }
    }

    /** Reads a quarter's text line by line; it stops at the first fault, which is the first by its place. */
    private static final class Reader {
        private final Tokens tokens;
        private final FormulaReader formulas;
        private Quarter told;
        private int value;
        private int cell;
        private int begin;
        private boolean shadeTold;
        private boolean cloudTold;
        int fault;
        int place;

        Reader(Tokens source, Quarter draft) {
            tokens = source;
            formulas = new FormulaReader(source, draft.formula);
            told = draft;
            place = NONE;
        }

        boolean readInto(Quarter draft, int length) {
            told = draft;
            told.clear();
            shadeTold = false;
            cloudTold = false;
            fault = 0;
            place = NONE;
            tokens.begin(length);
            boolean good = true;
            for (int lines = 0; lines <= length && good && tokens.kind != END; lines++) {
                int word = tokens.kind;
                if (!mayBegin(word, lines)) {
                    return refuse(MISPLACED);
                }
                tokens.advance();
                switch (word) {
                    case SIZE:
                        good = readSize();
                        break;
                    case WALL:
                        good = readWalls();
                        break;
                    case DOOR:
                        good = readDoor();
                        break;
                    case LAMP:
                        good = readLamp();
                        break;
                    case PERSON:
                        good = readPerson();
                        break;
                    case SHADE:
                        good = readShade();
                        break;
                    default:
                        good = readCloud();
                        break;
                }
            }
            if (good) {
                told.settle();
            }
            return good;
        }

        private boolean mayBegin(int word, int lines) {
            switch (word) {
                case SIZE:
                    return lines == 0;
                case WALL:
                    return true;
                case DOOR:
                    return !told.doors.isFull();
                case LAMP:
                    return !told.lamps.isFull();
                case PERSON:
                    return !told.people.isFull();
                case SHADE:
                    return !shadeTold;
                case CLOUD:
                    return !cloudTold;
                default:
                    return false;
            }
        }

        private boolean readSize() {
            if (!takeNumber(1, WIDEST)) {
                return false;
            }
            int wide = value;
            if (!take(BY) || !takeNumber(1, WIDEST)) {
                return false;
            }
            told.setSize(wide, value);
            return take(';');
        }

        private boolean readWalls() {
            for (int i = 0; i <= MOST_WALLS; i++) {
                if (Long.bitCount(told.walls) >= MOST_WALLS) {
                    return refuse(MISPLACED);
                }
                if (!takeCell(WALL)) {
                    return false;
                }
                told.walls |= 1L << cell;
                if (tokens.kind != NUMBER) {
                    return take(';');
                }
            }
            return refuse(MISPLACED);
        }

        private boolean readDoor() {
            long name = tokens.name;
            if (!takeName(told.doors) || !take(AT) || !takeCell(DOOR) || !take(HIGH) || !takeNumber(1, HIGHEST)) {
                return false;
            }
            int high = value;
            begin = 0;
            value = DAY;
            if (tokens.kind == OPEN && !takeHours(OPEN)) {
                return false;
            }
            told.doors.add(name, cell, high, begin, value);
            return take(';');
        }

        private boolean readLamp() {
            long name = tokens.name;
            if (!takeName(told.lamps) || !take(AT) || !takeCell(LAMP) || !takeHours(LIT)) {
                return false;
            }
            told.lamps.add(name, cell, 0, begin, value);
            return take(';');
        }

        private boolean readPerson() {
            long name = tokens.name;
            if (!takeName(told.people) || !take(AT) || !takeCell(PERSON)) {
                return false;
            }
            told.people.add(name, cell, 0, 0, DAY);
            return take(';');
        }

        private boolean readShade() {
            shadeTold = true;
            if (!formulas.readFormula(told.formula)) {
                return refuse(MISPLACED);
            }
            return take(';');
        }

        private boolean readCloud() {
            cloudTold = true;
            if (!takeNumber(0, 100)) {
                return false;
            }
            told.cloud = value;
            return take(';');
        }

        private boolean takeHours(int word) {
            if (!take(word) || !takeNumber(0, DAY - 1)) {
                return false;
            }
            begin = value;
            return take(TO) && takeNumber(begin + 1, DAY);
        }

        private boolean takeName(Things sort) {
            if (tokens.kind != NAME) {
                return refuse(MISPLACED);
            }
            if (sort.isNamed(tokens.name)) {
                return refuse(TAKEN);
            }
            tokens.advance();
            return true;
        }

        private boolean takeCell(int sort) {
            if (!takeNumber(0, told.width - 1)) {
                return false;
            }
            int column = value;
            if (tokens.kind == NUMBER && tokens.number < told.depth) {
                cell = tokens.number * told.width + column;
                if (isTaken(sort)) {
                    return refuse(TAKEN);
                }
            }
            return takeNumber(0, told.depth - 1);
        }

        private boolean isTaken(int sort) {
            if ((told.walls >>> cell & 1) != 0) {
                return true;
            }
            if (sort == WALL) {
                return told.doors.standAt(cell) || told.lamps.standAt(cell) || told.people.standAt(cell);
            }
            return sort == DOOR && told.doors.standAt(cell);
        }

        private boolean takeNumber(int least, int most) {
            if (tokens.kind != NUMBER) {
                return refuse(MISPLACED);
            }
            if (tokens.number < least || tokens.number > most) {
                return refuse(IMPOSSIBLE);
            }
            value = tokens.number;
            tokens.advance();
            return true;
        }

        private boolean take(int kind) {
            if (tokens.kind != kind) {
                return refuse(MISPLACED);
            }
            tokens.advance();
            return true;
        }

        private boolean refuse(int which) {
            fault = tokens.kind == BAD ? NO_TOKEN : which;
            place = tokens.start;
            return false;
        }
    }

    /** Reads a formula into code; where it stops in vain, the token that can't stand there is the tokens' own. */
    private static final class FormulaReader {
        private final Tokens tokens;
        private Formula formula;

        FormulaReader(Tokens source, Formula draft) {
            tokens = source;
            formula = draft;
        }

        boolean readFormula(Formula empty) {
            formula = empty;
            return readEither(0);
        }

        private boolean readEither(int within) {
            boolean good = readBoth(within);
            for (int i = 0; i < MOST_UNITS && good && tokens.kind == OR; i++) {
                tokens.advance();
                good = readBoth(within);
                formula.addDeed(OR);
            }
            return good;
        }

        private boolean readBoth(int within) {
            boolean good = readOne(within);
            for (int i = 0; i < MOST_UNITS && good && tokens.kind == AND; i++) {
                tokens.advance();
                good = readOne(within);
                formula.addDeed(AND);
            }
            return good;
        }

        private boolean readOne(int within) {
            if (tokens.kind == NOT) {
                if (within >= DEEPEST) {
                    return false;
                }
                tokens.advance();
                boolean good = readOne(within + 1);
                formula.addDeed(NOT);
                return good;
            }
            if (!readSum(within)) {
                return false;
            }
            int relation = tokens.kind;
            if (relation != '<' && relation != '>' && relation != '=') {
                return true;
            }
            tokens.advance();
            boolean good = readSum(within);
            formula.addDeed(relation);
            return good;
        }

        private boolean readSum(int within) {
            boolean good = readTerm(within);
            for (int i = 0; i < MOST_UNITS && good; i++) {
                int deed = tokens.kind;
                if (deed != '+' && deed != '-') {
                    break;
                }
                tokens.advance();
                good = readTerm(within);
                formula.addDeed(deed);
            }
            return good;
        }

        private boolean readTerm(int within) {
            boolean good = readUnit(within);
            for (int i = 0; i < MOST_UNITS && good; i++) {
                int deed = tokens.kind;
                if (deed != '*' && deed != '/' && deed != '%') {
                    break;
                }
                tokens.advance();
                good = readUnit(within);
                formula.addDeed(deed);
            }
            return good;
        }

        private boolean readUnit(int within) {
            if (formula.units >= MOST_UNITS) {
                return false;
            }
            switch (tokens.kind) {
                case NUMBER:
                    formula.addNumber(tokens.number);
                    break;
                case HEIGHT:
                case HOUR:
                case DATE:
                    formula.addUnit(tokens.kind);
                    break;
                case '(':
                    if (within >= DEEPEST) {
                        return false;
                    }
                    formula.units++;
                    tokens.advance();
                    if (!readEither(within + 1) || tokens.kind != ')') {
                        return false;
                    }
                    break;
                default:
                    return false;
            }
            tokens.advance();
            return true;
        }
    }

    /** What acts change; all of it fits in one number, which is what is kept of it. */
    private static final class Now {
        final int[] at = new int[MOST_PEOPLE];
        int gone;
        int shut;
        int out;
        boolean eclipse;
        int hours;

        void begin(Quarter town) {
            for (int i = 0; i < at.length; i++) {
                at[i] = i < town.people.count ? town.people.cells[i] : 0;
            }
            gone = 0;
            shut = 0;
            out = 0;
            eclipse = false;
            hours = 0;
        }

        int hourOfDay() {
            return hours % DAY;
        }

        long packed() {
            long state = hours;
            state = state << 1 | (eclipse ? 1 : 0);
            state = state << MOST_LAMPS | out;
            state = state << MOST_DOORS | shut;
            state = state << MOST_PEOPLE | gone;
            for (int i = 0; i < at.length; i++) {
                state = state << 6 | at[i];
            }
            return state;
        }

        void unpack(long state) {
            long rest = state;
            for (int i = at.length - 1; i >= 0; i--) {
                at[i] = (int) (rest & 63);
                rest >>>= 6;
            }
            gone = (int) (rest & 15);
            rest >>>= MOST_PEOPLE;
            shut = (int) (rest & 255);
            rest >>>= MOST_DOORS;
            out = (int) (rest & 15);
            rest >>>= MOST_LAMPS;
            eclipse = (rest & 1) != 0;
            hours = (int) (rest >>> 1);
        }
    }

    /** The states between acts, the oldest first; behind the current one are those that were taken back. */
    private static final class Acts {
        private final long[] states = new long[MOST_ACTS + 1];
        int done;
        int kept;

        void begin(long state) {
            states[0] = state;
            done = 0;
            kept = 0;
        }

        void add(long state) {
            if (done >= MOST_ACTS) {
                System.arraycopy(states, 1, states, 0, MOST_ACTS);
                done = MOST_ACTS - 1;
            }
            done++;
            states[done] = state;
            kept = done;
        }

        boolean stepBack() {
            if (done <= 0) {
                return false;
            }
            done--;
            return true;
        }

        boolean stepOn() {
            if (done >= kept) {
                return false;
            }
            done++;
            return true;
        }

        long current() {
            return states[done];
        }
    }

    /** Shadows and moves, hour by hour from a start; hours once found are kept as long as they stay true. */
    private static final class Sky {
        Quarter town;
        private int start;
        private int shut;
        private int out;
        private int burning;
        private boolean dark;
        private long found;
        private final long[] shadows = new long[(FARTHEST + 1) * MOST_DOORS];
        private final int[] opens = new int[FARTHEST + 1];
        private final int[] lengths = new int[HIGHEST + 1];

        Sky(Quarter first) {
            town = first;
        }

        void forget(Quarter other) {
            town = other;
            found = 0;
        }

        void aimAt(Now now) {
            shut = now.shut;
            if (start != now.hours || out != now.out || dark != now.eclipse || burning != 0) {
                found = 0;
            }
            start = now.hours;
            out = now.out;
            dark = now.eclipse;
            burning = 0;
        }

        void startOn(int date) {
            start = date * DAY + start % DAY;
            found = 0;
        }

        void burn(int lamps) {
            burning = lamps;
            found = 0;
        }

        boolean isDark() {
            return dark;
        }

        void darken(boolean clouds) {
            dark = clouds;
            found = 0;
        }

        long shadowOf(int door, int n) {
            prepare(n);
            return shadows[n * MOST_DOORS + door];
        }

        int openIn(int n) {
            prepare(n);
            return opens[n] & ~shut;
        }

        private void prepare(int n) {
            if ((found >>> n & 1) != 0) {
                return;
            }
            found |= 1L << n;
            int hour = (start + n) % DAY;
            int date = (start + n) / DAY;
            int lit = litIn(hour);
            Arrays.fill(lengths, NO_SHADE);
            opens[n] = 0;
            Things doors = town.doors;
            for (int door = 0; door < doors.count; door++) {
                int high = doors.highs[door];
                // Doors of one height share a shade, and to find it is the dearest part.
                if (lengths[high] == NO_SHADE) {
                    lengths[high] = dark ? 0 : cut(town.formula.valueFor(high, hour, date));
                }
                shadows[n * MOST_DOORS + door] = town.shadowBy(door, lengths[high], lit);
                if (doors.isInHours(door, hour)) {
                    opens[n] |= 1 << door;
                }
            }
        }

        /** No quarter is wider; a cut number can also be turned round without wrapping. */
        static int cut(int shade) {
            return Math.max(-WIDEST, Math.min(WIDEST, shade));
        }

        private int litIn(int hour) {
            int lit = 0;
            for (int lamp = 0; lamp < town.lamps.count; lamp++) {
                if (town.lamps.isInHours(lamp, hour)) {
                    lit |= 1 << lamp;
                }
            }
            return lit & ~out | burning;
        }

        /** Where one can be behind a move; as each move can be made the other way too, also where one can come from. */
        long stepFrom(long set, int n, int alsoShut) {
            prepare(n);
            int open = opens[n] & ~shut & ~alsoShut;
            long next = town.spread(set);
            for (int door = 0; door < town.doors.count; door++) {
                if (!isBit(open, door)) {
                    continue;
                }
                long shadow = shadows[n * MOST_DOORS + door];
                int cell = town.doors.cells[door];
                if ((set & shadow) != 0) {
                    next |= 1L << cell;
                }
                if ((set >>> cell & 1) != 0) {
                    next |= shadow | crossed(shadow, n, open);
                }
            }
            return next;
        }

        private long crossed(long shadow, int n, int open) {
            long bits = 0;
            for (int door = 0; door < town.doors.count; door++) {
                if (isBit(open, door) && (shadow & shadows[n * MOST_DOORS + door]) != 0) {
                    bits |= 1L << town.doors.cells[door];
                }
            }
            return bits;
        }
    }

    /** What is found from now on, hour by hour. */
    private static final class Ways {
        private final Sky sky;
        final int[] way = new int[FARTHEST];
        int laid;
        int foundHours;
        int foundCell;
        long upper;
        long lower;
        private final long[] sets = new long[FARTHEST + 1];
        private final long[] odds = new long[MOST_CELLS];
        private final long[] sums = new long[MOST_CELLS];

        Ways(Sky above) {
            sky = above;
        }

        void forget() {
            laid = 0;
        }

        int layWay(int from, int to) {
            long set = 1L << from;
            int hours = 0;
            while (hours < FARTHEST && (set >>> to & 1) == 0) {
                set = sky.stepFrom(set, hours, 0);
                hours++;
            }
            if ((set >>> to & 1) == 0) {
                return NONE;
            }
            sets[hours] = 1L << to;
            for (int k = hours - 1; k > 0; k--) {
                sets[k] = sky.stepFrom(sets[k + 1], k, 0);
            }
            int at = from;
            for (int k = 0; k < hours; k++) {
                at = Long.numberOfTrailingZeros(sky.stepFrom(1L << at, k, 0) & sets[k + 1]);
                way[k] = at;
            }
            laid = hours;
            return hours;
        }

        long goOn(long set, int n) {
            long reached = set;
            for (int k = 0; k < n; k++) {
                reached = sky.stepFrom(reached, k, 0);
            }
            return reached;
        }

        long comeFrom(long set, int n) {
            long from = set;
            for (int k = n - 1; k >= 0; k--) {
                from = sky.stepFrom(from, k, 0);
            }
            return from;
        }

        boolean bringTogether(int one, int other) {
            long here = 1L << one;
            long there = 1L << other;
            foundHours = 0;
            for (int k = 0; k < FARTHEST && (here & there) == 0; k++) {
                here = sky.stepFrom(here, k, 0);
                there = sky.stepFrom(there, k, 0);
                foundHours = k + 1;
            }
            foundCell = Long.numberOfTrailingZeros(here & there);
            return (here & there) != 0;
        }

        /** Rooms are joined just where moves of the hour lead, one behind the other. */
        long joinedWith(long set, int n) {
            long joined = set;
            for (int i = 0; i < MOST_CELLS; i++) {
                long wider = sky.stepFrom(joined, n, 0);
                if (wider == joined) {
                    break;
                }
                joined = wider;
            }
            return joined;
        }

        int countJoined(int n) {
            long rest = sky.town.ground;
            int many = 0;
            for (int i = 0; i < MOST_CELLS && rest != 0; i++) {
                rest &= ~joinedWith(Long.lowestOneBit(rest), n);
                many++;
            }
            return many;
        }

        int fewestShut(int from, int to, int n) {
            int all = 1 << sky.town.doors.count;
            for (int many = 0; many <= MOST_KEPT_SHUT; many++) {
                for (int bits = 0; bits < all; bits++) {
                    if (Integer.bitCount(bits) == many && !canBe(from, to, n, bits)) {
                        return bits;
                    }
                }
            }
            return NONE;
        }

        int fewestLit(int from, int to, int n) {
            int lamps = sky.town.lamps.count;
            for (int many = 0; many <= lamps; many++) {
                for (int bits = 0; bits < 1 << lamps; bits++) {
                    if (Integer.bitCount(bits) == many) {
                        sky.burn(bits);
                        if (canBe(from, to, n, 0)) {
                            return bits;
                        }
                    }
                }
            }
            return NONE;
        }

        private boolean canBe(int from, int to, int n, int alsoShut) {
            long set = 1L << from;
            for (int k = 0; k < n && (set >>> to & 1) == 0; k++) {
                set = sky.stepFrom(set, k, alsoShut);
            }
            return (set >>> to & 1) != 0;
        }

        int countDates(int from, int to, int n, int what) {
            int many = 0;
            int first = NONE;
            int last = NONE;
            boolean can = false;
            for (int date = 0; date < DATES; date++) {
                // Without date in the formula all dates are like the first.
                if (date == 0 || sky.town.formula.dated) {
                    sky.startOn(date);
                    can = canBe(from, to, n, 0);
                }
                if (can) {
                    many++;
                    first = first == NONE ? date : first;
                    last = date;
                }
            }
            return what == 0 ? many : what == 1 ? first : last;
        }

        /** Odds are whole numbers of 100 to the power of the hours left; of 8 hours they fit in a long. */
        void weighOdds(int from, int to, int n) {
            int cloud = sky.town.cloud;
            boolean eclipsed = sky.isDark();
            Arrays.fill(odds, 0);
            odds[to] = 1;
            lower = 1;
            for (int k = n - 1; k >= 0; k--) {
                Arrays.fill(sums, 0);
                sky.darken(true);
                addBest(k, cloud);
                sky.darken(eclipsed);
                addBest(k, 100 - cloud);
                System.arraycopy(sums, 0, odds, 0, MOST_CELLS);
                lower *= 100;
            }
            upper = odds[from];
            long common = commonDivisor(upper, lower);
            if (common > 1) {
                upper /= common;
                lower /= common;
            }
        }

        private void addBest(int k, int weight) {
            if (weight == 0) {
                return;
            }
            for (int cell = 0; cell < sky.town.cells; cell++) {
                if (sky.town.canStand(cell)) {
                    sums[cell] += weight * bestOf(sky.stepFrom(1L << cell, k, 0));
                }
            }
        }

        private long bestOf(long set) {
            long best = 0;
            long rest = set;
            for (int i = 0; i < MOST_CELLS && rest != 0; i++) {
                best = Math.max(best, odds[Long.numberOfTrailingZeros(rest)]);
                rest &= rest - 1;
            }
            return best;
        }

        private static long commonDivisor(long one, long other) {
            long big = other;
            long small = one;
            for (int i = 0; i < 200 && small != 0; i++) {
                long rest = big % small;
                big = small;
                small = rest;
            }
            return big;
        }
    }

    /** What was seen of an unknown door, and when that was told and untold. */
    private static final class Looks {
        int count;
        int time;
        int question;
        int mostLeft;
        private final int[] hours = new int[MOST_LOOKS];
        private final int[] cells = new int[MOST_LOOKS];
        private final int[] tolds = new int[MOST_LOOKS];
        private final int[] untolds = new int[MOST_LOOKS];
        private int seen;
        private int untold;
        private final long[] fitting = new long[LOOK_HEIGHTS];
        private final int[] lengths = new int[LOOK_HEIGHTS];

        void forget() {
            count = 0;
            seen = 0;
            untold = 0;
        }

        int tell(int hour, int cell, boolean is) {
            if (count >= MOST_LOOKS) {
                return NONE;
            }
            hours[count] = hour;
            cells[count] = cell;
            tolds[count] = time;
            if (is) {
                seen |= 1 << count;
            }
            count++;
            return count - 1;
        }

        boolean takeBack(int look) {
            if (look < 0 || look >= count || isBit(untold, look)) {
                return false;
            }
            untold |= 1 << look;
            untolds[look] = time;
            return true;
        }

        private boolean counts(int look, int k) {
            return tolds[look] <= k && !(isBit(untold, look) && untolds[look] <= k);
        }

        /** The cells that fit, height by height: how many in all. */
        int findFitting(Quarter town, int k) {
            Arrays.fill(fitting, town.ground);
            for (int look = 0; look < count; look++) {
                if (counts(look, k)) {
                    findLengths(town, hours[look]);
                    keepFitting(town, look);
                }
            }
            return countFitting();
        }

        private void keepFitting(Quarter town, int look) {
            for (int i = 0; i < LOOK_HEIGHTS; i++) {
                long doors = doorsShading(town, cells[look], i);
                fitting[i] &= isBit(seen, look) ? doors : ~doors;
            }
        }

        private int countFitting() {
            int many = 0;
            for (int i = 0; i < LOOK_HEIGHTS; i++) {
                many += Long.bitCount(fitting[i]);
            }
            return many;
        }

        /** The doors that shade a cell lie where its own shadow would, turned round. */
        private long doorsShading(Quarter town, int cell, int i) {
            return town.rowBits(cell, -lengths[i]);
        }

        private void findLengths(Quarter town, int hour) {
            for (int i = 0; i < LOOK_HEIGHTS; i++) {
                lengths[i] = Sky.cut(town.formula.valueFor(i + 1, hour, 0));
            }
        }

        long fittingCells() {
            long bits = 0;
            for (int i = 0; i < LOOK_HEIGHTS; i++) {
                bits |= fitting[i];
            }
            return bits;
        }

        int fittingHeights() {
            int bits = 0;
            for (int i = 0; i < LOOK_HEIGHTS; i++) {
                if (fitting[i] != 0) {
                    bits |= 1 << i;
                }
            }
            return bits;
        }

        void findQuestion(Quarter town) {
            int all = countFitting();
            mostLeft = all + 1;
            for (int hour = 0; hour < DAY; hour++) {
                findLengths(town, hour);
                for (int cell = 0; cell < town.cells; cell++) {
                    if (town.canStand(cell)) {
                        int shaded = countShading(town, cell);
                        int left = Math.max(shaded, all - shaded);
                        if (left < mostLeft) {
                            mostLeft = left;
                            question = 100 * hour + cell;
                        }
                    }
                }
            }
        }

        private int countShading(Quarter town, int cell) {
            int many = 0;
            for (int i = 0; i < LOOK_HEIGHTS; i++) {
                many += Long.bitCount(fitting[i] & doorsShading(town, cell, i));
            }
            return many;
        }
    }
}
