import java.math.BigInteger;
import java.nio.charset.StandardCharsets;
import java.util.ArrayList;
import java.util.Arrays;
import java.util.HashMap;
import java.util.List;
import java.util.Map;
import java.util.Set;
import java.util.TreeSet;

/** The document once more, as slowly and plainly as can be: sets of cells, lists of states, no bits, nothing kept. */
final class Model {
    static final class Fault extends Exception {
        final int which;
        final int place;

        Fault(int which, int place) {
            super(null, null, false, false);
            this.which = which;
            this.place = place;
        }
    }

    record Token(String text, char sort, int place) { }

    record Thing(String name, int column, int row, int high, int from, int to) { }

    interface Term {
        int of(int height, int hour, int date);
    }

    static final class Plan {
        int width = 6;
        int depth = 6;
        final Set<Integer> walls = new TreeSet<>();
        final List<Thing> doors = new ArrayList<>();
        final List<Thing> lamps = new ArrayList<>();
        final List<Thing> people = new ArrayList<>();
        Term shade;
        int cloud = -1;
        int units;

        int shadeOf(int height, int hours) {
            return shade == null ? 0 : shade.of(height, hours % 24, hours / 24);
        }

        int cell(Thing thing) {
            return thing.row * width + thing.column;
        }

        boolean isFree(int cell) {
            return cell >= 0 && cell < width * depth && !walls.contains(cell);
        }
    }

    static final class State {
        List<Integer> at = new ArrayList<>();
        Set<Integer> gone = new TreeSet<>();
        Set<Integer> shut = new TreeSet<>();
        Set<Integer> out = new TreeSet<>();
        boolean eclipse;
        int hours;

        State copy() {
            State other = new State();
            other.at = new ArrayList<>(at);
            other.gone = new TreeSet<>(gone);
            other.shut = new TreeSet<>(shut);
            other.out = new TreeSet<>(out);
            other.eclipse = eclipse;
            other.hours = hours;
            return other;
        }
    }

    record Look(int hour, int cell, boolean is, int told, int[] untold) { }

    // ---- the text ----

    private static final Set<String> WORDS = Set.of("size", "by", "wall", "door", "at", "high", "open", "to", "lamp", "lit",
            "person", "shade", "cloud", "or", "and", "not", "height", "hour", "date");

    private String text = "";
    private List<Token> tokens;
    private int next;
    private Plan draft;

    /** Sorts: w a word that stands for itself, a NAME, n a number, s a sign, b no token, e the end. */
    private static List<Token> tokensOf(String text) {
        List<Token> list = new ArrayList<>();
        java.util.regex.Matcher m = java.util.regex.Pattern.compile("[a-z]+|[0-9]+|[^ \\n]", java.util.regex.Pattern.DOTALL).matcher(text);
        while (m.find()) {
            String t = m.group();
            char sort;
            if (t.matches("[a-z]+")) {
                sort = t.length() > 8 ? 'b' : WORDS.contains(t) ? 'w' : 'a';
            } else if (t.matches("[0-9]+")) {
                boolean lettered = m.end() < text.length() && String.valueOf(text.charAt(m.end())).matches("[a-z]");
                sort = t.length() > 4 || lettered ? 'b' : 'n';
            } else {
                sort = ";()<>=+-*/%".contains(t) ? 's' : 'b';
            }
            list.add(new Token(t, sort, m.start()));
        }
        list.add(new Token("", 'e', text.length()));
        return list;
    }

    private Token peek() {
        return tokens.get(next);
    }

    private Fault wrong(int which) {
        return new Fault(peek().sort == 'b' ? 1 : which, peek().place);
    }

    private boolean sees(String t) {
        return (peek().sort == 'w' || peek().sort == 's') && peek().text.equals(t);
    }

    private void expect(String t) throws Fault {
        if (!sees(t)) {
            throw wrong(2);
        }
        next++;
    }

    private int number(int least, int most) throws Fault {
        if (peek().sort != 'n') {
            throw wrong(2);
        }
        int n = Integer.parseInt(peek().text);
        if (n < least || n > most) {
            throw wrong(4);
        }
        next++;
        return n;
    }

    private String name(List<Thing> sort) throws Fault {
        if (peek().sort != 'a') {
            throw wrong(2);
        }
        for (Thing thing : sort) {
            if (thing.name.equals(peek().text)) {
                throw wrong(3);
            }
        }
        return tokens.get(next++).text;
    }

    private int[] cell(String sort) throws Fault {
        int column = number(0, draft.width - 1);
        int row = number(0, draft.depth - 1);
        int cell = row * draft.width + column;
        boolean taken = draft.walls.contains(cell);
        if (sort.equals("wall")) {
            List<Thing> all = new ArrayList<>(draft.doors);
            all.addAll(draft.lamps);
            all.addAll(draft.people);
            taken |= all.stream().anyMatch(t -> draft.cell(t) == cell);
        }
        if (sort.equals("door")) {
            taken |= draft.doors.stream().anyMatch(t -> draft.cell(t) == cell);
        }
        if (taken) {
            next--;
            throw wrong(3);
        }
        return new int[] {column, row};
    }

    private int[] hours(String word) throws Fault {
        expect(word);
        int from = number(0, 23);
        expect("to");
        return new int[] {from, number(from + 1, 24)};
    }

    Plan parse(String source) throws Fault {
        tokens = tokensOf(source);
        next = 0;
        draft = new Plan();
        boolean first = true;
        while (peek().sort != 'e') {
            String word = peek().sort == 'w' ? peek().text : "";
            boolean may = switch (word) {
                case "size" -> first;
                case "wall" -> true;
                case "door" -> draft.doors.size() < 8;
                case "lamp" -> draft.lamps.size() < 4;
                case "person" -> draft.people.size() < 4;
                case "shade" -> draft.shade == null;
                case "cloud" -> draft.cloud < 0;
                default -> false;
            };
            if (!may) {
                throw wrong(2);
            }
            next++;
            line(word);
            expect(";");
            first = false;
        }
        return draft;
    }

    private void line(String word) throws Fault {
        switch (word) {
            case "size" -> {
                draft.width = number(1, 8);
                expect("by");
                draft.depth = number(1, 8);
            }
            case "wall" -> {
                do {
                    if (draft.walls.size() == 24) {
                        throw wrong(2);
                    }
                    int[] at = cell("wall");
                    draft.walls.add(at[1] * draft.width + at[0]);
                } while (peek().sort == 'n');
            }
            case "door" -> {
                String name = name(draft.doors);
                expect("at");
                int[] at = cell("door");
                expect("high");
                int high = number(1, 9);
                int[] when = sees("open") ? hours("open") : new int[] {0, 24};
                draft.doors.add(new Thing(name, at[0], at[1], high, when[0], when[1]));
            }
            case "lamp" -> {
                String name = name(draft.lamps);
                expect("at");
                int[] at = cell("lamp");
                int[] when = hours("lit");
                draft.lamps.add(new Thing(name, at[0], at[1], 0, when[0], when[1]));
            }
            case "person" -> {
                String name = name(draft.people);
                expect("at");
                int[] at = cell("person");
                draft.people.add(new Thing(name, at[0], at[1], 0, 0, 24));
            }
            case "shade" -> draft.shade = either(0);
            default -> draft.cloud = number(0, 100);
        }
    }

    private Term either(int within) throws Fault {
        Term left = both(within);
        while (sees("or")) {
            next++;
            Term a = left;
            Term b = both(within);
            left = (h, o, d) -> a.of(h, o, d) != 0 | b.of(h, o, d) != 0 ? 1 : 0;
        }
        return left;
    }

    private Term both(int within) throws Fault {
        Term left = one(within);
        while (sees("and")) {
            next++;
            Term a = left;
            Term b = one(within);
            left = (h, o, d) -> a.of(h, o, d) != 0 & b.of(h, o, d) != 0 ? 1 : 0;
        }
        return left;
    }

    private Term one(int within) throws Fault {
        if (sees("not")) {
            if (within > 6) {
                throw wrong(2);
            }
            next++;
            Term a = one(within + 1);
            return (h, o, d) -> a.of(h, o, d) == 0 ? 1 : 0;
        }
        Term a = sum(within);
        for (String sign : List.of("<", ">", "=")) {
            if (sees(sign)) {
                next++;
                Term b = sum(within);
                return (h, o, d) -> {
                    int order = Integer.compare(a.of(h, o, d), b.of(h, o, d));
                    return order == (sign.equals("<") ? -1 : sign.equals(">") ? 1 : 0) ? 1 : 0;
                };
            }
        }
        return a;
    }

    private Term sum(int within) throws Fault {
        Term left = term(within);
        while (sees("+") || sees("-")) {
            int sign = tokens.get(next++).text.equals("+") ? 1 : -1;
            Term a = left;
            Term b = term(within);
            left = (h, o, d) -> (int) ((long) a.of(h, o, d) + (long) sign * b.of(h, o, d));
        }
        return left;
    }

    private Term term(int within) throws Fault {
        Term left = unit(within);
        while (sees("*") || sees("/") || sees("%")) {
            String sign = tokens.get(next++).text;
            Term a = left;
            Term b = unit(within);
            left = (h, o, d) -> {
                BigInteger x = BigInteger.valueOf(a.of(h, o, d));
                BigInteger y = BigInteger.valueOf(b.of(h, o, d));
                if (sign.equals("*")) {
                    return x.multiply(y).intValue();
                }
                if (y.signum() == 0) {
                    return 0;
                }
                return sign.equals("/") ? x.divide(y).intValue() : x.remainder(y).intValue();
            };
        }
        return left;
    }

    private Term unit(int within) throws Fault {
        if (draft.units == 30) {
            throw wrong(2);
        }
        draft.units++;
        if (peek().sort == 'n') {
            int n = Integer.parseInt(tokens.get(next++).text);
            return (h, o, d) -> n;
        }
        if (sees("height") || sees("hour") || sees("date")) {
            String word = tokens.get(next++).text;
            return (h, o, d) -> word.equals("height") ? h : word.equals("hour") ? o : d;
        }
        if (!sees("(") || within > 6) {
            throw wrong(2);
        }
        next++;
        Term inner = either(within + 1);
        expect(")");
        return inner;
    }

    // ---- the object ----

    Plan plan = new Plan();
    State now = new State();
    List<State> undone = new ArrayList<>();
    List<State> done = new ArrayList<>();
    State[] boxes = new State[3];
    List<Look> looks = new ArrayList<>();
    List<Integer> laid = new ArrayList<>();
    int time;
    int faultKind;
    int faultPlace = -1;

    int feed(int a, int b, int c, int d, int e) {
        if (text.length() + 20 > 1600) {
            return -1;
        }
        byte[] bytes = java.nio.ByteBuffer.allocate(20).putInt(a).putInt(b).putInt(c).putInt(d).putInt(e).array();
        text += new String(bytes, StandardCharsets.ISO_8859_1);
        return text.length();
    }

    int end(int n) {
        if (n < 0 || n > text.length()) {
            return -1;
        }
        text = text.substring(0, n);
        return n;
    }

    int quarter() {
        String source = text;
        text = "";
        try {
            plan = parse(source);
        } catch (Fault f) {
            faultKind = f.which;
            faultPlace = f.place;
            return -1;
        }
        faultKind = 0;
        faultPlace = -1;
        now = new State();
        for (Thing thing : plan.people) {
            now.at.add(plan.cell(thing));
        }
        done.clear();
        undone.clear();
        boxes = new State[3];
        looks.clear();
        laid.clear();
        return plan.doors.size();
    }

    int fault(int what) {
        return what == 0 ? faultKind : what == 1 ? faultPlace : -1;
    }

    private static <T> boolean has(List<T> list, int i) {
        return i >= 0 && i < list.size();
    }

    private static boolean during(Thing thing, int hours) {
        return hours % 24 >= thing.from && hours % 24 < thing.to;
    }

    private boolean isOpen(int door, State s) {
        return during(plan.doors.get(door), s.hours) && !s.shut.contains(door);
    }

    private boolean isLit(int lamp, State s) {
        return during(plan.lamps.get(lamp), s.hours) && !s.out.contains(lamp);
    }

    int door(int door, int what) {
        if (!has(plan.doors, door)) {
            return -1;
        }
        return switch (what) {
            case 0 -> plan.cell(plan.doors.get(door));
            case 1 -> plan.doors.get(door).high;
            case 2 -> isOpen(door, now) ? 1 : 0;
            case 3 -> now.shut.contains(door) ? 1 : 0;
            default -> -1;
        };
    }

    int lamp(int lamp, int what) {
        if (!has(plan.lamps, lamp)) {
            return -1;
        }
        return switch (what) {
            case 0 -> plan.cell(plan.lamps.get(lamp));
            case 1 -> isLit(lamp, now) ? 1 : 0;
            case 2 -> now.out.contains(lamp) ? 1 : 0;
            default -> -1;
        };
    }

    int person(int person, int what) {
        if (!has(plan.people, person)) {
            return -1;
        }
        return what == 0 ? now.at.get(person) : what == 1 ? (now.gone.contains(person) ? 1 : 0) : -1;
    }

    private static boolean ahead(int n) {
        return n >= 0 && n <= 48;
    }

    private static boolean choice(int what) {
        return what == 0 || what == 1;
    }

    private State in(int n) {
        State s = now.copy();
        s.hours += n;
        return s;
    }

    int shade(int door, int n) {
        return has(plan.doors, door) && ahead(n) ? plan.shadeOf(plan.doors.get(door).high, now.hours + n) : -1000000;
    }

    private void walk(Set<Integer> cells, Thing from, int dx, int dy, long length) {
        int x = from.column;
        int y = from.row;
        for (long i = 0; i < length; i++) {
            x += dx;
            y += dy;
            if (x < 0 || y < 0 || x >= plan.width || y >= plan.depth) {
                return;
            }
            if (!plan.walls.contains(y * plan.width + x)) {
                cells.add(y * plan.width + x);
            }
        }
    }

    /** Burning lamps throw shadows whatever else is so. */
    Set<Integer> shadowOf(int number, State s, Set<Integer> burning) {
        Thing door = plan.doors.get(number);
        Set<Integer> cells = new TreeSet<>();
        int shade = s.eclipse ? 0 : plan.shadeOf(door.high, s.hours);
        walk(cells, door, shade < 0 ? -1 : 1, 0, Math.abs((long) shade));
        for (int i = 0; i < plan.lamps.size(); i++) {
            Thing lamp = plan.lamps.get(i);
            int dx = Integer.signum(door.column - lamp.column);
            int dy = Integer.signum(door.row - lamp.row);
            if (!(isLit(i, s) || burning.contains(i)) || (dx == 0) == (dy == 0)) {
                continue;
            }
            boolean clear = true;
            for (int x = lamp.column, y = lamp.row; x != door.column || y != door.row; x += dx, y += dy) {
                clear &= !plan.walls.contains(y * plan.width + x);
            }
            if (clear) {
                walk(cells, door, dx, dy, door.high);
            }
        }
        return cells;
    }

    Set<Integer> movesFrom(int cell, State s, Set<Integer> burning) {
        Set<Integer> to = new TreeSet<>(List.of(cell));
        int x = cell % plan.width;
        int y = cell / plan.width;
        for (int other = 0; other < plan.width * plan.depth; other++) {
            int far = Math.abs(other % plan.width - x) + Math.abs(other / plan.width - y);
            if (far == 1 && plan.isFree(other)) {
                to.add(other);
            }
        }
        for (int d = 0; d < plan.doors.size(); d++) {
            if (!isOpen(d, s)) {
                continue;
            }
            Set<Integer> shadow = shadowOf(d, s, burning);
            int at = plan.cell(plan.doors.get(d));
            if (shadow.contains(cell)) {
                to.add(at);
            }
            if (at == cell) {
                to.addAll(shadow);
                for (int e = 0; e < plan.doors.size(); e++) {
                    if (e != d && isOpen(e, s) && shadowOf(e, s, burning).stream().anyMatch(shadow::contains)) {
                        to.add(plan.cell(plan.doors.get(e)));
                    }
                }
            }
        }
        return to;
    }

    static long bits(Iterable<Integer> cells) {
        long bits = 0;
        for (int cell : cells) {
            bits |= 1L << cell;
        }
        return bits;
    }

    long shadow(int door, int n) {
        return has(plan.doors, door) && ahead(n) ? bits(shadowOf(door, in(n), Set.of())) : 0;
    }

    long shades(int n, boolean open) {
        long bits = 0;
        for (int d = 0; ahead(n) && d < plan.doors.size(); d++) {
            if (!open || isOpen(d, in(n))) {
                bits |= shadow(d, n);
            }
        }
        return bits;
    }

    long moves(int cell, int n) {
        return plan.isFree(cell) && ahead(n) ? bits(movesFrom(cell, in(n), Set.of())) : 0;
    }

    private void act(State before) {
        done.add(before);
        if (done.size() > 40) {
            done.remove(0);
        }
        undone.clear();
    }

    int go(int person, int cell) {
        if (!has(plan.people, person) || now.gone.contains(person)) {
            return -1;
        }
        int from = now.at.get(person);
        if (!movesFrom(from, now, Set.of()).contains(cell)) {
            return -1;
        }
        act(now.copy());
        now.at.set(person, cell);
        now.gone.add(person);
        int far = Math.abs(from % plan.width - cell % plan.width) + Math.abs(from / plan.width - cell / plan.width);
        return Math.min(far, 2);
    }

    int hour() {
        if (now.hours == 2000) {
            return -1;
        }
        act(now.copy());
        now.gone.clear();
        return ++now.hours;
    }

    private static int turn(Set<Integer> set, int i) {
        if (set.remove(i)) {
            return 0;
        }
        set.add(i);
        return 1;
    }

    int shut(int door) {
        if (!has(plan.doors, door)) {
            return -1;
        }
        act(now.copy());
        return turn(now.shut, door);
    }

    int out(int lamp) {
        if (!has(plan.lamps, lamp)) {
            return -1;
        }
        act(now.copy());
        return turn(now.out, lamp);
    }

    boolean eclipse() {
        act(now.copy());
        now.eclipse = !now.eclipse;
        return now.eclipse;
    }

    boolean undo() {
        if (done.isEmpty()) {
            return false;
        }
        undone.add(now);
        now = done.remove(done.size() - 1);
        return true;
    }

    boolean redo() {
        if (undone.isEmpty()) {
            return false;
        }
        done.add(now);
        now = undone.remove(undone.size() - 1);
        return true;
    }

    private Set<Integer> after(Set<Integer> from, State s, Set<Integer> burning) {
        Set<Integer> to = new TreeSet<>();
        for (int cell : from) {
            to.addAll(movesFrom(cell, s, burning));
        }
        return to;
    }

    /** The least way to each cell, all as long as one another. */
    int soonest(int from, int to) {
        laid.clear();
        if (!plan.isFree(from) || !plan.isFree(to)) {
            return -1;
        }
        Map<Integer, List<Integer>> ways = new HashMap<>();
        ways.put(from, List.of());
        for (int n = 0; n <= 48; n++) {
            if (ways.containsKey(to)) {
                laid.addAll(ways.get(to));
                return n;
            }
            Map<Integer, List<Integer>> longer = new HashMap<>();
            for (var way : ways.entrySet()) {
                for (int cell : movesFrom(way.getKey(), in(n), Set.of())) {
                    List<Integer> more = new ArrayList<>(way.getValue());
                    more.add(cell);
                    longer.merge(cell, more, (a, b) -> Arrays.compare(a.toArray(new Integer[0]), b.toArray(new Integer[0])) <= 0 ? a : b);
                }
            }
            ways = longer;
        }
        return -1;
    }

    private Set<Integer> reached(int from, int n, State start, Set<Integer> burning) {
        Set<Integer> cells = new TreeSet<>(List.of(from));
        State s = start.copy();
        for (int k = 0; k < n; k++) {
            cells = after(cells, s, burning);
            s.hours++;
        }
        return cells;
    }

    long reach(int from, int n) {
        return plan.isFree(from) && ahead(n) ? bits(reached(from, n, now, Set.of())) : 0;
    }

    int meet(int person, int other, int what) {
        if (!has(plan.people, person) || !has(plan.people, other) || person == other || !choice(what)) {
            return -1;
        }
        for (int n = 0; n <= 48; n++) {
            Set<Integer> both = reached(now.at.get(person), n, now, Set.of());
            both.retainAll(reached(now.at.get(other), n, now, Set.of()));
            for (int cell : both) {
                return what == 0 ? n : cell;
            }
        }
        return -1;
    }

    long barred(int to, int n) {
        long bits = 0;
        for (int cell = 0; cell < plan.width * plan.depth; cell++) {
            if (plan.isFree(to) && ahead(n) && plan.isFree(cell) && !reached(cell, n, now, Set.of()).contains(to)) {
                bits |= 1L << cell;
            }
        }
        return bits;
    }

    int longest(int door, int what) {
        if (!has(plan.doors, door) || !choice(what)) {
            return -1;
        }
        int best = 0;
        for (int n = 1; n < 24; n++) {
            if (Long.bitCount(shadow(door, n)) > Long.bitCount(shadow(door, best))) {
                best = n;
            }
        }
        return what == 0 ? best : Long.bitCount(shadow(door, best));
    }

    int cross(int door, int other, int what) {
        if (!has(plan.doors, door) || !has(plan.doors, other) || door == other || !choice(what)) {
            return -1;
        }
        for (int n = 0; n <= 48; n++) {
            if (isOpen(door, in(n)) && isOpen(other, in(n))) {
                for (int cell : shadowOf(door, in(n), Set.of())) {
                    if (shadowOf(other, in(n), Set.of()).contains(cell)) {
                        return what == 0 ? n : cell;
                    }
                }
            }
        }
        return -1;
    }

    /** A label for each cell: cells of one room, and of joined ones, have the same. */
    private int[] labels(State s) {
        int cells = plan.width * plan.depth;
        int[] label = new int[cells];
        for (int i = 0; i < cells; i++) {
            label[i] = plan.isFree(i) ? i : -1;
        }
        for (int i = 0; i < cells; i++) {
            for (int j = 0; j < cells; j++) {
                boolean next = Math.abs(i % plan.width - j % plan.width) + Math.abs(i / plan.width - j / plan.width) == 1;
                if (next && plan.isFree(i) && plan.isFree(j)) {
                    unite(label, i, j);
                }
            }
        }
        for (int d = 0; d < plan.doors.size(); d++) {
            if (isOpen(d, s)) {
                for (int cell : shadowOf(d, s, Set.of())) {
                    unite(label, cell, plan.cell(plan.doors.get(d)));
                }
            }
        }
        return label;
    }

    private static void unite(int[] label, int i, int j) {
        int old = label[i];
        int fresh = label[j];
        for (int k = 0; k < label.length; k++) {
            if (label[k] == old) {
                label[k] = fresh;
            }
        }
    }

    int rooms(int n) {
        return ahead(n) ? (int) Arrays.stream(labels(in(n))).filter(l -> l >= 0).distinct().count() : -1;
    }

    int hears(int cell, int other, int n) {
        if (!plan.isFree(cell) || !plan.isFree(other) || !ahead(n)) {
            return -1;
        }
        int[] label = labels(in(n));
        return label[cell] == label[other] ? 1 : 0;
    }

    private boolean journey(int from, int to, int n, int most) {
        return plan.isFree(from) && plan.isFree(to) && n >= 1 && n <= most;
    }

    private static Set<Integer> setOf(int bits) {
        Set<Integer> set = new TreeSet<>();
        for (int i = 0; i < 8; i++) {
            if ((bits >> i & 1) == 1) {
                set.add(i);
            }
        }
        return set;
    }

    int keep(int from, int to, int n, int what) {
        if (!journey(from, to, n, 24) || !choice(what)) {
            return -1;
        }
        int best = -1;
        for (int bits = (1 << plan.doors.size()) - 1; bits >= 0; bits--) {
            if (Integer.bitCount(bits) > 3 || best >= 0 && Integer.bitCount(bits) > Integer.bitCount(best)) {
                continue;
            }
            State s = now.copy();
            s.shut.addAll(setOf(bits));
            if (!reached(from, n, s, Set.of()).contains(to)) {
                best = bits;
            }
        }
        return best < 0 ? -1 : what == 0 ? Integer.bitCount(best) : best;
    }

    int free(int from, int to, int n, int what) {
        if (!journey(from, to, n, 24) || !choice(what)) {
            return -1;
        }
        int best = -1;
        for (int bits = (1 << plan.lamps.size()) - 1; bits >= 0; bits--) {
            if (best >= 0 && Integer.bitCount(bits) > Integer.bitCount(best)) {
                continue;
            }
            if (reached(from, n, now, setOf(bits)).contains(to)) {
                best = bits;
            }
        }
        return best < 0 ? -1 : what == 0 ? Integer.bitCount(best) : best;
    }

    long surest(int from, int to, int n, int part) {
        if (!journey(from, to, n, 8) || !choice(part)) {
            return -1;
        }
        BigInteger upper = odds(from, to, 0, n, new HashMap<>());
        BigInteger lower = BigInteger.valueOf(100).pow(n);
        BigInteger common = upper.gcd(lower);
        return (part == 0 ? upper : lower).divide(common).longValueExact();
    }

    private BigInteger odds(int at, int to, int k, int n, Map<Integer, BigInteger> known) {
        if (k == n) {
            return at == to ? BigInteger.ONE : BigInteger.ZERO;
        }
        BigInteger old = known.get(k * 64 + at);
        if (old != null) {
            return old;
        }
        int cloud = Math.max(plan.cloud, 0);
        State cloudy = in(k);
        cloudy.eclipse = true;
        BigInteger sum = BigInteger.ZERO;
        for (int weather = 0; weather < 2; weather++) {
            BigInteger best = BigInteger.ZERO;
            for (int cell : movesFrom(at, weather == 0 ? in(k) : cloudy, Set.of())) {
                best = best.max(odds(cell, to, k + 1, n, known));
            }
            sum = sum.add(best.multiply(BigInteger.valueOf(weather == 0 ? 100 - cloud : cloud)));
        }
        known.put(k * 64 + at, sum);
        return sum;
    }

    int dates(int from, int to, int n, int what) {
        if (!journey(from, to, n, 24) || what < 0 || what > 2) {
            return -1;
        }
        List<Integer> dates = new ArrayList<>();
        for (int date = 0; date < 100; date++) {
            State s = now.copy();
            s.hours = date * 24 + now.hours % 24;
            if (reached(from, n, s, Set.of()).contains(to)) {
                dates.add(date);
            }
        }
        if (what == 0) {
            return dates.size();
        }
        return dates.isEmpty() ? -1 : dates.get(what == 1 ? 0 : dates.size() - 1);
    }

    int lies(int i) {
        return has(laid, i) ? laid.get(i) : -1;
    }

    int look(int hour, int cell, boolean is) {
        if (hour < 0 || hour > 23 || !plan.isFree(cell) || looks.size() == 30) {
            return -1;
        }
        looks.add(new Look(hour, cell, is, time, new int[] {-1}));
        return looks.size() - 1;
    }

    boolean untell(int look) {
        if (!has(looks, look) || looks.get(look).untold[0] >= 0) {
            return false;
        }
        looks.get(look).untold[0] = time;
        return true;
    }

    int later(int by) {
        if (by < 0 || by > 1000 || time + by > 100000) {
            return -1;
        }
        return time += by;
    }

    private boolean shades(int place, int height, int hour, int cell) {
        long shade = plan.shadeOf(height, hour);
        int far = cell - place;
        boolean row = cell / plan.width == place / plan.width;
        return row && (shade > 0 && far > 0 && far <= shade || shade < 0 && far < 0 && far >= shade);
    }

    /** Those that fit, each as its cell and its height. */
    private List<int[]> fitting(int k) {
        List<int[]> list = new ArrayList<>();
        for (int place = 0; place < plan.width * plan.depth; place++) {
            for (int height = 1; height <= 4; height++) {
                boolean fits = plan.isFree(place);
                for (Look look : looks) {
                    boolean counts = look.told <= k && !(look.untold[0] >= 0 && look.untold[0] <= k);
                    fits &= !counts || shades(place, height, look.hour, look.cell) == look.is;
                }
                if (fits) {
                    list.add(new int[] {place, height});
                }
            }
        }
        return list;
    }

    int fit(int k) {
        return fitting(k).size();
    }

    long places(int k) {
        return fitting(k).stream().mapToLong(f -> 1L << f[0]).reduce(0, (a, b) -> a | b);
    }

    int heights(int k) {
        return fitting(k).stream().mapToInt(f -> 1 << f[1] - 1).reduce(0, (a, b) -> a | b);
    }

    int ask(int what, int k) {
        List<int[]> all = fitting(k);
        if (all.isEmpty() || !choice(what)) {
            return -1;
        }
        int best = -1;
        int fewest = Integer.MAX_VALUE;
        for (int hour = 0; hour < 24; hour++) {
            for (int cell = 0; cell < plan.width * plan.depth; cell++) {
                int h = hour;
                int c = cell;
                int shaded = (int) all.stream().filter(f -> shades(f[0], f[1], h, c)).count();
                int left = Math.max(shaded, all.size() - shaded);
                if (plan.isFree(cell) && left < fewest) {
                    fewest = left;
                    best = 100 * hour + cell;
                }
            }
        }
        return what == 0 ? best : fewest;
    }

    int image(int box) {
        if (box < 0 || box > 2) {
            return -1;
        }
        boxes[box] = now.copy();
        return now.hours;
    }

    int back(int box) {
        if (box < 0 || box > 2 || boxes[box] == null) {
            return -1;
        }
        now = boxes[box].copy();
        done.clear();
        undone.clear();
        return now.hours;
    }

    int about(int what) {
        int[] all = {plan.doors.size(), plan.lamps.size(), plan.people.size(), plan.walls.size(), plan.width, plan.depth,
            now.hours % 24, now.hours / 24, now.hours, now.eclipse ? 1 : 0, done.size(), undone.size(), looks.size(), time,
            text.length(), plan.units, laid.size()};
        return what >= 0 && what < all.length ? all[what] : -1;
    }
}
