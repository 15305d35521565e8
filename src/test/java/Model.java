import java.util.ArrayDeque;
import java.util.ArrayList;
import java.util.Arrays;
import java.util.Deque;
import java.util.HashMap;
import java.util.List;
import java.util.Map;
import java.util.NoSuchElementException;
import java.util.function.IntPredicate;
import java.util.function.ToIntFunction;

/**
 * The document once more, written another way and without regard to room or speed, for ModelTest to compare with:
 * states are copied whole, texts are read by recursive descent over their signs, all ways are tried.
 */
final class Model {
    static final class Part {
        int sort;
        int edge;
        int wear;
        int guilt;
        int came;
        int tool = -1;
        boolean nailed;
        boolean ground;

        Part copy() {
            Part p = new Part();
            p.sort = sort;
            p.edge = edge;
            p.wear = wear;
            p.guilt = guilt;
            p.came = came;
            p.tool = tool;
            p.nailed = nailed;
            p.ground = ground;
            return p;
        }
    }

    record Deed(int day, int tool, int master, int harm, int edge, int grade, int parts) {
    }

    record Row(int day, int part, int much, int deed, int from) {
    }

    record Asked(Part part, int harm, int hard, int master, int day) {
    }

    interface Holds {
        boolean in(Asked asked);
    }

    record Line(String kind, int n, Holds condition) {
    }

    static final class State {
        List<Part> parts = new ArrayList<>();
        List<List<Integer>> tools = new ArrayList<>();
        List<boolean[]> needs = new ArrayList<>();
        List<Integer> benches = new ArrayList<>();
        List<Deed> deeds = new ArrayList<>();
        List<Row> rows = new ArrayList<>();
        Map<Integer, List<Integer>> sheets = new HashMap<>();
        List<Line> law;
        int texts;
        int day;
        int damp;
        int limit;
        int seed = 1;
        int served;

        State copy() {
            State s = new State();
            parts.forEach(p -> s.parts.add(p.copy()));
            tools.forEach(t -> s.tools.add(new ArrayList<>(t)));
            needs.forEach(n -> s.needs.add(n.clone()));
            s.benches.addAll(benches);
            s.deeds.addAll(deeds);
            s.rows.addAll(rows);
            s.sheets.putAll(sheets);
            s.law = law;
            s.texts = texts;
            s.day = day;
            s.damp = damp;
            s.limit = limit;
            s.seed = seed;
            s.served = served;
            return s;
        }
    }

    /** A text that is wrong at a byte. */
    static final class Wrong extends RuntimeException {
        private static final long serialVersionUID = 1L;
        final int at;

        Wrong(int at) {
            this.at = at;
        }
    }

    /** Reads signs one by one; what stands next is looked at where it begins. */
    static final class Signs {
        final String text;
        int at;

        Signs(String text) {
            this.text = text;
        }

        char next() {
            while (at < text.length() && text.charAt(at) == ' ') {
                at++;
            }
            return at < text.length() ? text.charAt(at) : '\uffff';
        }

        boolean over() {
            next();
            return at == text.length();
        }

        String peekWord() {
            next();
            int to = at;
            while (to < text.length() && text.charAt(to) >= 'a' && text.charAt(to) <= 'z') {
                to++;
            }
            return text.substring(at, to);
        }

        boolean word(String wanted) {
            if (!peekWord().equals(wanted)) {
                return false;
            }
            at += wanted.length();
            return true;
        }

        void mustWord(String wanted) {
            if (!word(wanted)) {
                throw new Wrong(at);
            }
        }

        boolean sign(char wanted) {
            if (over() || next() != wanted) {
                return false;
            }
            at++;
            return true;
        }

        boolean digitNext() {
            return !over() && Character.isDigit(next()) && next() < 128;
        }

        int number(int digits, IntPredicate right) {
            next();
            int to = at;
            while (to < text.length() && text.charAt(to) >= '0' && text.charAt(to) <= '9') {
                to++;
            }
            if (to == at || to - at > digits || !right.test(Integer.parseInt(text.substring(at, to)))) {
                throw new Wrong(at);
            }
            int value = Integer.parseInt(text.substring(at, to));
            at = to;
            return value;
        }
    }

    private State s = new State();
    private State image;
    private final Deque<State> acts = new ArrayDeque<>();
    private String tape = "";
    private int fault = -1;

    // ---- the TAPE

    public int feed(int a, int b, int c, int d, int e) {
        if (tape.length() > 380) {
            return -1;
        }
        for (int n : new int[] {a, b, c, d, e}) {
            tape += "" + (char) (n >> 24 & 255) + (char) (n >> 16 & 255) + (char) (n >> 8 & 255) + (char) (n & 255);
        }
        return tape.length();
    }

    public boolean end(int n) {
        if (n < 0 || n > tape.length()) {
            return false;
        }
        tape = tape.substring(0, n);
        return true;
    }

    private String used() {
        String text = tape;
        tape = "";
        return text;
    }

    // ---- texts

    public int shop() {
        State read = s.copy();
        try {
            lines(new Signs(used()), 14, signs -> shopLine(signs, read));
            fault = -1;
        } catch (Wrong wrong) {
            fault = wrong.at;
            throw new IllegalArgumentException();
        }
        if (s.texts == 12) {
            throw new UnsupportedOperationException();
        }
        s = read;
        s.texts++;
        acts.clear();
        return s.texts;
    }

    public int law() {
        List<Line> read = new ArrayList<>();
        try {
            lines(new Signs(used()), 12, signs -> read.add(lawLine(signs)));
            fault = -1;
        } catch (Wrong wrong) {
            fault = wrong.at;
            throw new IllegalArgumentException();
        }
        s.law = read;
        acts.clear();
        return read.size();
    }

    public int fault() {
        return fault;
    }

    private static void lines(Signs signs, int most, java.util.function.Consumer<Signs> line) {
        if (signs.over()) {
            return;
        }
        for (int n = 1;; n++) {
            signs.next();
            if (n > most) {
                throw new Wrong(signs.at);
            }
            line.accept(signs);
            if (signs.over()) {
                return;
            }
            if (!signs.sign(';')) {
                throw new Wrong(signs.at);
            }
        }
    }

    private static void shopLine(Signs in, State to) {
        in.next();
        int begin = in.at;
        if (in.word("part")) {
            few(to.parts, 16, begin);
            Part p = new Part();
            p.sort = Arrays.asList("handle", "head", "joint").indexOf(in.peekWord());
            if (p.sort < 0) {
                throw new Wrong(in.at);
            }
            in.mustWord(in.peekWord());
            in.mustWord("edge");
            p.edge = in.number(4, n -> n <= 9);
            in.mustWord("wear");
            p.wear = in.number(4, n -> n <= 99);
            to.parts.add(p);
        } else if (in.word("tool")) {
            few(to.tools, 6, begin);
            List<Integer> tool = new ArrayList<>(List.of(-1, -1, -1));
            do {
                int part = in.number(4, n -> n < to.parts.size() && to.parts.get(n).tool == -1 && tool.get(to.parts.get(n).sort) == -1);
                tool.set(to.parts.get(part).sort, part);
                to.parts.get(part).tool = to.tools.size();
            } while (in.digitNext());
            to.tools.add(tool);
            to.needs.add(new boolean[32]);
        } else if (in.word("master")) {
            few(to.benches, 6, begin);
            to.benches.add(in.number(4, n -> n <= 9));
        } else if (in.word("nail")) {
            to.parts.get(in.number(4, n -> n < to.parts.size() && to.parts.get(n).tool != -1)).nailed = true;
        } else if (in.word("damp")) {
            to.damp = in.number(4, n -> n <= 100);
        } else if (in.word("need")) {
            int day = in.number(4, n -> n <= 31);
            to.needs.get(in.number(4, n -> n < to.tools.size()))[day] = true;
        } else if (in.word("limit")) {
            to.limit = in.number(4, n -> true);
        } else {
            throw new Wrong(begin);
        }
    }

    private static void few(List<?> list, int most, int begin) {
        if (list.size() == most) {
            throw new Wrong(begin);
        }
    }

    private static Line lawLine(Signs in) {
        String kind = in.peekWord();
        if (!List.of("answer", "plead", "heir", "blunt").contains(kind)) {
            throw new Wrong(in.at);
        }
        in.mustWord(kind);
        int n = in.number(3, v -> v <= (kind.equals("blunt") ? 99 : 999));
        return new Line(kind, n, in.word("if") ? any(in, 0) : asked -> true);
    }

    private static Holds any(Signs in, int depth) {
        Holds left = all(in, depth);
        if (!in.word("or")) {
            return left;
        }
        Holds right = any(in, depth);
        return asked -> left.in(asked) || right.in(asked);
    }

    private static Holds all(Signs in, int depth) {
        Holds left = atom(in, depth);
        if (!in.word("and")) {
            return left;
        }
        Holds right = all(in, depth);
        return asked -> left.in(asked) && right.in(asked);
    }

    private static Holds atom(Signs in, int depth) {
        in.next();
        int begin = in.at;
        if (in.word("not")) {
            deep(depth, begin);
            Holds inner = atom(in, depth + 1);
            return asked -> !inner.in(asked);
        }
        if (in.sign('(')) {
            deep(depth, begin);
            Holds inner = any(in, depth + 1);
            if (!in.sign(')')) {
                throw new Wrong(in.at);
            }
            return inner;
        }
        int sort = Arrays.asList("handle", "head", "joint").indexOf(in.peekWord());
        if (sort >= 0) {
            in.mustWord(in.peekWord());
            return asked -> asked.part.sort == sort;
        }
        if (in.word("nailed")) {
            return asked -> asked.part.nailed;
        }
        ToIntFunction<Asked> left = sum(in);
        boolean less = in.sign('<');
        if (!less && !in.sign('>')) {
            throw new Wrong(in.at);
        }
        ToIntFunction<Asked> right = sum(in);
        return asked -> less ? left.applyAsInt(asked) < right.applyAsInt(asked) : left.applyAsInt(asked) > right.applyAsInt(asked);
    }

    private static void deep(int depth, int begin) {
        if (depth == 6) {
            throw new Wrong(begin);
        }
    }

    private static ToIntFunction<Asked> sum(Signs in) {
        ToIntFunction<Asked> left = term(in);
        if (!in.sign('+')) {
            return left;
        }
        ToIntFunction<Asked> right = sum(in);
        return asked -> left.applyAsInt(asked) + right.applyAsInt(asked);
    }

    private static ToIntFunction<Asked> term(Signs in) {
        if (in.digitNext()) {
            int value = in.number(3, n -> true);
            return asked -> value;
        }
        String word = in.peekWord();
        ToIntFunction<Asked> found = switch (word) {
            case "edge" -> a -> a.part.edge;
            case "wear" -> a -> a.part.wear;
            case "guilt" -> a -> a.part.guilt;
            case "harm" -> a -> a.harm;
            case "hard" -> a -> a.hard;
            case "master" -> a -> a.master;
            case "day" -> a -> a.day;
            case "tool" -> a -> Math.max(0, a.part.tool);
            default -> throw new Wrong(in.at);
        };
        in.mustWord(word);
        return found;
    }

    private int told(String kind, Asked asked) {
        if (s.law == null) {
            return asked.part.sort != 1 ? 0 : kind.equals("answer") ? 100 : kind.equals("blunt") ? 1 : 0;
        }
        int sum = 0;
        for (Line line : s.law) {
            sum += line.kind.equals(kind) && line.condition.in(asked) ? line.n : 0;
        }
        return Math.min(sum, kind.equals("blunt") ? 99 : 100);
    }

    private Asked plain(int part) {
        return new Asked(s.parts.get(part), 0, 0, 0, s.day);
    }

    private int inherited(int part) {
        return s.parts.get(part).guilt * told("heir", plain(part)) / 100;
    }

    // ---- what is refused

    private static void index(boolean right) {
        if (!right) {
            throw new IndexOutOfBoundsException();
        }
    }

    private static void argument(boolean right) {
        if (!right) {
            throw new IllegalArgumentException();
        }
    }

    private static void state(boolean right) {
        if (!right) {
            throw new IllegalStateException();
        }
    }

    private boolean isPart(int n) {
        return n >= 0 && n < s.parts.size();
    }

    private boolean isTool(int n) {
        return n >= 0 && n < s.tools.size();
    }

    private boolean isMaster(int n) {
        return n >= 0 && n < s.benches.size();
    }

    private static int pick(int what, int... values) {
        if (what < 0 || what >= values.length) {
            throw new NoSuchElementException();
        }
        return values[what];
    }

    private static int bit(boolean set, int n) {
        return set ? 1 << n : 0;
    }

    // ---- what there is

    private int answers(int tool) {
        return s.tools.get(tool).stream().filter(p -> p != -1).mapToInt(p -> s.parts.get(p).guilt).sum();
    }

    public int part(int part, int what) {
        index(isPart(part));
        Part p = s.parts.get(part);
        int share = p.tool == -1 || answers(p.tool) == 0 ? 0 : (int) ((long) p.guilt * 10000 / answers(p.tool));
        return pick(what, p.sort, p.edge, p.wear, p.guilt, bit(p.nailed, 0), bit(p.ground, 0), p.tool, p.came, share);
    }

    public int tool(int tool, int what) {
        index(isTool(tool));
        List<Integer> t = s.tools.get(tool);
        int needs = 0;
        for (int day = 0; day < 32; day++) {
            needs |= bit(s.needs.get(tool)[day], day);
        }
        return pick(what, t.get(0), t.get(1), t.get(2), answers(tool), (answers(tool) + 9) / 10, needs);
    }

    public int master(int master, boolean harm) {
        index(isMaster(master));
        return harm ? s.deeds.stream().filter(d -> d.master == master).mapToInt(Deed::harm).sum() : s.benches.get(master);
    }

    public int rule(int part, int what) {
        index(isPart(part));
        return pick(what, told("answer", plain(part)), told("plead", plain(part)), told("heir", plain(part)), told("blunt", plain(part)));
    }

    // ---- ACTS

    private void act() {
        acts.addLast(s.copy());
        if (acts.size() > 10) {
            acts.removeFirst();
        }
    }

    private void come(int part, int much, int deed, int from) {
        s.parts.get(part).guilt += much;
        if (much > 0) {
            s.rows.add(new Row(s.day, part, much, deed, from));
            if (s.rows.size() > 60) {
                s.rows.remove(0);
            }
        }
    }

    private int gain(int part, int master, int harm, int hard) {
        Asked asked = new Asked(s.parts.get(part), harm, hard, master, s.day);
        return harm * told("answer", asked) / 100 * (100 - told("plead", asked)) / 100;
    }

    private void checkDeed(int tool, int master, int harm, int hard) {
        index(isTool(tool) && isMaster(master));
        argument(harm >= 1 && harm <= 999 && hard >= 0 && hard <= 9);
        state(s.tools.get(tool).get(1) != -1);
    }

    public int deed(int tool, int master, int harm, int hard) {
        checkDeed(tool, master, harm, hard);
        if (s.deeds.size() == 60) {
            throw new UnsupportedOperationException();
        }
        act();
        Part head = s.parts.get(s.tools.get(tool).get(1));
        int grade = head.wear / 10;
        Map<Integer, int[]> told = new HashMap<>();
        int set = 0;
        for (int p : s.tools.get(tool)) {
            if (p != -1) {
                set |= 1 << p;
                told.put(p, new int[] {gain(p, master, harm, hard), told("blunt", new Asked(s.parts.get(p), harm, hard, master, s.day))});
            }
        }
        for (int p : s.tools.get(tool)) {
            if (p != -1) {
                come(p, told.get(p)[0], s.deeds.size(), -1);
                Part part = s.parts.get(p);
                part.wear = Math.min(99, part.wear + told.get(p)[1] + (part.sort == 1 ? hard : 0));
            }
        }
        s.deeds.add(new Deed(s.day, tool, master, harm, head.edge, grade, set));
        return head.edge * 10 + grade;
    }

    public int swap(int tool, int sort, int part) {
        index(isTool(tool) && sort >= 0 && sort <= 2 && (part == -1 || isPart(part)));
        argument(part == -1 || s.parts.get(part).sort == sort);
        int goes = s.tools.get(tool).get(sort);
        state(goes == -1 || !s.parts.get(goes).nailed);
        state(part == -1 || s.parts.get(part).tool == -1);
        state(goes != -1 || part != -1);
        act();
        int over = goes != -1 && part != -1 ? inherited(goes) : 0;
        s.tools.get(tool).set(sort, part);
        if (goes != -1) {
            s.parts.get(goes).tool = -1;
            s.parts.get(goes).guilt -= over;
        }
        if (part != -1) {
            s.parts.get(part).tool = tool;
            s.parts.get(part).came += over;
            come(part, over, -1, goes);
        }
        return over;
    }

    public int serve(int tool, int days) {
        index(isTool(tool));
        argument(days >= 1 && days <= 99);
        act();
        int less = 0;
        for (int unit = 0; unit < days * 10; unit++) {
            for (int p : s.tools.get(tool)) {
                if (p != -1 && s.parts.get(p).guilt > 0) {
                    s.parts.get(p).guilt--;
                    less++;
                    break;
                }
            }
        }
        s.served += less;
        return less;
    }

    public int grind(int part) {
        index(isPart(part));
        argument(s.parts.get(part).sort == 1);
        state(!s.parts.get(part).ground);
        act();
        s.parts.get(part).ground = true;
        return s.parts.get(part).wear = Math.max(0, s.parts.get(part).wear - 30);
    }

    public boolean nail(int part, boolean fast) {
        index(isPart(part));
        state(s.parts.get(part).tool != -1);
        act();
        boolean was = s.parts.get(part).nailed;
        s.parts.get(part).nailed = fast;
        return was != fast;
    }

    private int mark(int tool) {
        int head = s.tools.get(tool).get(1);
        return head == -1 ? -1 : s.parts.get(head).edge * 10 + s.parts.get(head).wear / 10;
    }

    private List<Integer> marks() {
        List<Integer> marks = new ArrayList<>();
        for (int tool = 0; tool < s.tools.size(); tool++) {
            marks.add(mark(tool));
        }
        return marks;
    }

    private int day() {
        s.sheets.put(s.day, marks());
        s.sheets.remove(s.day - 30);
        s.seed = s.seed * 1103515245 + 12345;
        int came = 0;
        if ((s.seed >> 16 & 0x7fff) % 100 < s.damp) {
            for (Part p : s.parts) {
                if (p.sort == 1 && p.wear < 99) {
                    p.wear++;
                    came++;
                }
            }
        }
        s.day++;
        for (boolean[] needs : s.needs) {
            System.arraycopy(needs, 1, needs, 0, 31);
            needs[31] = false;
        }
        return came;
    }

    public int days(int n) {
        argument(n >= 1 && n <= 60);
        act();
        int came = 0;
        for (int i = 0; i < n; i++) {
            came += day();
        }
        return came;
    }

    // ---- guilt

    public int guilty() {
        int set = 0;
        for (int tool = 0; tool < s.tools.size(); tool++) {
            set |= bit(answers(tool) > s.limit, tool);
        }
        return set;
    }

    public int culprits(int edge, int grade, int day) {
        argument(edge >= 0 && edge <= 9 && grade >= 0 && grade <= 9 && day >= 0 && day <= s.day);
        List<Integer> marks = day == s.day ? marks() : s.sheets.get(day);
        if (marks == null) {
            return -1;
        }
        int set = 0;
        for (int tool = 0; tool < marks.size(); tool++) {
            set |= bit(marks.get(tool) == edge * 10 + grade, tool);
        }
        return set;
    }

    public int ask(boolean many) {
        int[] edges = new int[10];
        int[] grades = new int[10];
        for (int mark : marks()) {
            if (mark != -1) {
                edges[mark / 10]++;
                grades[mark % 10]++;
            }
        }
        int edge = Arrays.stream(edges).max().getAsInt();
        int grade = Arrays.stream(grades).max().getAsInt();
        return many ? Math.min(edge, grade) : edge <= grade ? 0 : 1;
    }

    /** {fewest, coming} by trying each way in its order; heirs -1: THE LAW's. */
    private int[] launder(int tool, int shut, int heirs) {
        int[] best = {-1, -1};
        for (int a = -1; a < s.parts.size(); a++) {
            for (int b = -1; b < s.parts.size(); b++) {
                for (int c = -1; c < s.parts.size(); c++) {
                    int[] comes = {a, b, c};
                    int guilt = 0;
                    int swaps = 0;
                    int set = 0;
                    boolean can = true;
                    for (int sort = 0; sort < 3; sort++) {
                        int goes = s.tools.get(tool).get(sort);
                        int part = comes[sort];
                        int own = goes == -1 ? 0 : s.parts.get(goes).guilt;
                        if (part == -1) {
                            guilt += own;
                            continue;
                        }
                        Part p = s.parts.get(part);
                        if (goes == -1 || s.parts.get(goes).nailed || sort == shut || p.tool != -1 || p.sort != sort) {
                            can = false;
                            break;
                        }
                        swaps++;
                        set |= 1 << part;
                        guilt += p.guilt + own * (heirs == -1 ? told("heir", plain(goes)) : heirs) / 100;
                    }
                    if (can && guilt <= s.limit && (best[0] == -1 || swaps < best[0])) {
                        best = new int[] {swaps, set};
                    }
                }
            }
        }
        return best;
    }

    public int laundered(int tool, boolean by) {
        index(isTool(tool));
        return launder(tool, -1, -1)[by ? 1 : 0];
    }

    public int guard(int tool) {
        index(isTool(tool));
        if (launder(tool, -1, -1)[0] <= 0) {
            return 0;
        }
        int set = 0;
        for (int sort = 0; sort < 3; sort++) {
            set |= bit(launder(tool, sort, -1)[0] == -1, sort);
        }
        return set;
    }

    public int word(int tool) {
        index(isTool(tool));
        for (int heirs = 0; heirs <= 100; heirs++) {
            if (launder(tool, -1, heirs)[0] == -1) {
                return heirs;
            }
        }
        return -1;
    }

    public int clean() {
        int set = 0;
        for (int tool = 0; tool < s.tools.size(); tool++) {
            set |= bit(answers(tool) > s.limit && launder(tool, -1, -1)[0] != -1, tool);
        }
        return set;
    }

    public int exchange(int tool, int other, boolean which) {
        index(isTool(tool) && isTool(other));
        argument(tool != other);
        for (int size = 0; size <= 3; size++) {
            for (int set = 0; set < 8; set++) {
                if (Integer.bitCount(set) == size && exchanged(tool, other, set)) {
                    return which ? set : size;
                }
            }
        }
        return -1;
    }

    private boolean exchanged(int tool, int other, int set) {
        State kept = s;
        s = s.copy();
        boolean can = true;
        Map<Integer, Integer> guilt = new HashMap<>();
        for (int sort = 0; sort < 3; sort++) {
            int one = s.tools.get(tool).get(sort);
            int two = s.tools.get(other).get(sort);
            if ((set >> sort & 1) == 0) {
                continue;
            }
            if (one == -1 || two == -1 || s.parts.get(one).nailed || s.parts.get(two).nailed) {
                can = false;
                break;
            }
            guilt.put(one, s.parts.get(one).guilt - inherited(one) + inherited(two));
            guilt.put(two, s.parts.get(two).guilt - inherited(two) + inherited(one));
            s.tools.get(tool).set(sort, two);
            s.tools.get(other).set(sort, one);
        }
        guilt.forEach((part, much) -> s.parts.get(part).guilt = much);
        can = can && answers(tool) <= s.limit && answers(other) <= s.limit;
        s = kept;
        return can;
    }

    public int with(int part) {
        index(isPart(part));
        return s.deeds.stream().map(Deed::parts).filter(p -> (p >> part & 1) == 1).reduce((a, b) -> a & b).orElse(0);
    }

    public int strokes(int part, boolean day) {
        index(isPart(part));
        Map<Integer, Integer> days = new HashMap<>();
        int all = 0;
        for (Deed d : s.deeds) {
            if ((d.parts >> part & 1) == 1) {
                days.merge(d.day, 1, Integer::sum);
                all++;
            }
        }
        return day ? days.values().stream().max(Integer::compare).orElse(0) : all;
    }

    public int harmed(int from, int to) {
        argument(from >= 0 && from <= to);
        return s.deeds.stream().filter(d -> d.day >= from && d.day <= to).mapToInt(Deed::harm).sum();
    }

    private int bestDays;
    private List<Integer> bestOrder;

    public int cell(int k) {
        bestDays = Integer.MAX_VALUE;
        bestOrder = List.of();
        orders(new ArrayList<>(), 0);
        if (bestDays > 64) {
            return -3;
        }
        return k == -1 ? bestDays : k >= 0 && k < bestOrder.size() ? bestOrder.get(k) : -1;
    }

    private void orders(List<Integer> order, int day) {
        boolean last = true;
        for (int tool = 0; tool < s.tools.size(); tool++) {
            if (answers(tool) > s.limit && !order.contains(tool)) {
                last = false;
                int then = day;
                for (int left = (answers(tool) + 9) / 10; left > 0; then++) {
                    left -= then < 32 && s.needs.get(tool)[then] ? 0 : 1;
                }
                order.add(tool);
                orders(order, then);
                order.remove(order.size() - 1);
            }
        }
        if (last && day < bestDays) {
            bestDays = day;
            bestOrder = new ArrayList<>(order);
        }
    }

    public int joint(int tool, int other) {
        index(isTool(tool) && isTool(other));
        argument(tool != other);
        int guilt = 0;
        for (int p = 0; p < s.parts.size(); p++) {
            int part = p;
            boolean one = s.deeds.stream().anyMatch(d -> d.tool == tool && (d.parts >> part & 1) == 1);
            boolean two = s.deeds.stream().anyMatch(d -> d.tool == other && (d.parts >> part & 1) == 1);
            guilt += one && two ? s.parts.get(p).guilt : 0;
        }
        return guilt;
    }

    public int clock(int part, int grade, boolean last) {
        index(isPart(part));
        argument(s.parts.get(part).sort == 1 && grade >= 0 && grade <= 9);
        int[] days = s.deeds.stream().filter(d -> (d.parts >> part & 1) == 1 && d.grade == grade).mapToInt(Deed::day).toArray();
        return days.length == 0 ? -1 : days[last ? days.length - 1 : 0];
    }

    public int together(boolean first) {
        String told = used();
        int set = 0;
        for (char c : told.toCharArray()) {
            argument(c < s.parts.size());
            set |= 1 << c;
        }
        int wanted = set;
        int[] days = s.deeds.stream().filter(d -> (wanted & ~d.parts) == 0).mapToInt(Deed::day).toArray();
        return !first ? days.length : days.length == 0 ? -1 : days[0];
    }

    public int heir() {
        int best = -1;
        for (int p = s.parts.size() - 1; p >= 0; p--) {
            int came = s.parts.get(p).came;
            best = came > 0 && (best == -1 || came >= s.parts.get(best).came) ? p : best;
        }
        return best;
    }

    public boolean jury(int jurors, int tool) {
        index(isTool(tool));
        int yes = 0;
        int no = 0;
        for (int t = 0; t < s.tools.size(); t++) {
            if ((jurors >> t & 1) == 1) {
                if (t != tool && answers(t) < answers(tool)) {
                    yes++;
                } else {
                    no++;
                }
            }
        }
        return yes > no;
    }

    public boolean alibi(int master, int day) {
        index(isMaster(master));
        argument(day >= 0);
        return s.deeds.stream().noneMatch(d -> d.day == day && Math.abs(s.benches.get(d.master) - s.benches.get(master)) < 2);
    }

    public int worstMaster() {
        int best = -1;
        for (int m = s.benches.size() - 1; m >= 0; m--) {
            int harm = master(m, true);
            best = harm > 0 && (best == -1 || harm >= master(best, true)) ? m : best;
        }
        return best;
    }

    public int pairs(int master, int tool) {
        index(isMaster(master) && isTool(tool));
        return (int) s.deeds.stream().filter(d -> d.master == master && d.tool == tool).count();
    }

    private int tried(int n, Integer seed) {
        State kept = s;
        s = s.copy();
        s.seed = seed == null ? s.seed : seed;
        for (int i = 0; i < n; i++) {
            day();
        }
        int wear = s.parts.stream().filter(p -> p.sort == 1).mapToInt(p -> p.wear).sum();
        s = kept;
        return wear;
    }

    public int trial(int n) {
        argument(n >= 0 && n <= 60);
        return tried(n, null);
    }

    public int span(int n, boolean most) {
        argument(n >= 0 && n <= 60);
        int[] all = {tried(n, 1), tried(n, 2), tried(n, 3), tried(n, 4), tried(n, 5), tried(n, 6)};
        Arrays.sort(all);
        return all[most ? 5 : 0];
    }

    public int after(int tool, int master, int harm, int hard) {
        checkDeed(tool, master, harm, hard);
        return answers(tool) + s.tools.get(tool).stream().filter(p -> p != -1).mapToInt(p -> gain(p, master, harm, hard)).sum();
    }

    public int worst(int tool, int master, int hard) {
        checkDeed(tool, master, 1, hard);
        if (answers(tool) > s.limit) {
            return -1;
        }
        for (int harm = 1; harm <= 999; harm++) {
            if (after(tool, master, harm, hard) > s.limit) {
                return harm;
            }
        }
        return -1;
    }

    public int sure(int edge) {
        argument(edge >= 0 && edge <= 9);
        return s.deeds.stream().filter(d -> d.edge == edge).map(Deed::parts).reduce((a, b) -> a & b).orElse((1 << s.parts.size()) - 1);
    }

    public int truth(int deed, int what) {
        index(deed >= 0 && deed < s.deeds.size());
        Deed d = s.deeds.get(deed);
        return pick(what, d.day, d.tool, d.master, d.harm, d.edge, d.grade, d.parts);
    }

    public int log(int ago, int what) {
        boolean there = ago >= 0 && ago < s.rows.size();
        Row r = there ? s.rows.get(s.rows.size() - 1 - ago) : new Row(-99, -99, -99, -99, -99);
        return pick(what, r.day, r.part, r.much, r.deed, r.from);
    }

    public int led(int part) {
        index(isPart(part));
        return (int) s.rows.stream().filter(r -> r.part == part).count();
    }

    public int seed(int n) {
        int was = s.seed;
        s.seed = n;
        return was;
    }

    public boolean undo() {
        if (acts.isEmpty()) {
            return false;
        }
        s = acts.removeLast();
        return true;
    }

    public void image() {
        image = s.copy();
    }

    public boolean back() {
        if (image == null) {
            return false;
        }
        s = image.copy();
        acts.clear();
        return true;
    }

    public int count(int what) {
        int spare = 0;
        for (int p = 0; p < s.parts.size(); p++) {
            spare |= bit(s.parts.get(p).tool == -1, p);
        }
        if (what < 0 || what > 14) {
            return -1;
        }
        return pick(what, s.parts.size(), s.tools.size(), s.benches.size(), s.texts, s.law == null ? -1 : s.law.size(), s.day,
                s.deeds.size(), s.limit, s.damp, spare, s.parts.stream().mapToInt(p -> p.guilt).sum(), s.served, s.rows.size(),
                acts.size(), s.sheets.size());
    }
}
