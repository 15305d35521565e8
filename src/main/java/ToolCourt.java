import java.util.Arrays;
import java.util.NoSuchElementException;

/**
 * A court in which tools are tried for what they did. Its promises stand, by numbers, in DOC.md;
 * words in capitals in the comments are terms of that document.
 */
public final class ToolCourt {
    public static final int NONE = -1;

    private static final int MOST_BYTES = 400;
    private static final int MOST_TEXTS = 12;
    private static final int MOST_SHOP_LINES = 14;
    private static final int MOST_LAW_LINES = 12;
    private static final int MOST_DEPTH = 6;
    private static final int MOST_PARTS = 16;
    private static final int MOST_TOOLS = 6;
    private static final int MOST_MASTERS = 6;
    private static final int MOST_DEEDS = 60;
    private static final int MOST_LOG = 60;
    private static final int MOST_SHEETS = 30;
    private static final int MOST_ACTS = 10;
    private static final int MOST_DAYS = 60;
    private static final int MOST_SERVED = 99;
    private static final int MOST_HARM = 999;
    private static final int MOST_HARD = 9;
    private static final int MOST_EDGE = 9;
    private static final int MOST_GRADE = 9;
    private static final int MOST_BENCH = 9;
    private static final int MOST_WEAR = 99;
    private static final int MOST_DAMP = 100;
    private static final int MOST_LIMIT = 9999;
    private static final int MOST_CELL = 64;
    private static final int NEED_DAYS = 32;
    private static final int GRADE_STEP = 10;
    private static final int DAY_OF_WORK = 10;
    private static final int GROUND_OFF = 30;
    private static final int TOO_LONG = -3;
    private static final int NO_ROW = -99;

    private static final int SORTS = 3;
    private static final int HANDLE = 0;
    private static final int HEAD = 1;
    private static final int JOINT = 2;

    // The columns of a PART stand in the order of what in part().
    private static final int SORT = 0;
    private static final int EDGE = 1;
    private static final int WEAR = 2;
    private static final int GUILT = 3;
    private static final int NAILED = 4;
    private static final int GROUND = 5;
    private static final int HOME = 6;
    private static final int CAME = 7;
    private static final int PART_COLUMNS = 8;

    // The first columns of a TOOL are its PARTS by SORTS.
    private static final int NEEDS = 3;
    private static final int TOOL_COLUMNS = 4;

    private static final int BENCH = 0;
    private static final int MASTER_COLUMNS = 1;

    // The columns of a DEED stand in the order of what in truth().
    private static final int DEED_DAY = 0;
    private static final int DEED_TOOL = 1;
    private static final int DEED_MASTER = 2;
    private static final int DEED_HARM = 3;
    private static final int DEED_EDGE = 4;
    private static final int DEED_GRADE = 5;
    private static final int DEED_PARTS = 6;
    private static final int DEED_COLUMNS = 7;

    // The columns of THE LOG stand in the order of what in log().
    private static final int LOG_DAY = 0;
    private static final int LOG_PART = 1;
    private static final int LOG_GUILT = 2;
    private static final int LOG_DEED = 3;
    private static final int LOG_FROM = 4;
    private static final int LOG_COLUMNS = 5;

    // The kinds of LINES of THE LAW stand in the order of what in rule().
    private static final int ANSWERS = 0;
    private static final int PLEADS = 1;
    private static final int HEIRS = 2;
    private static final int BLUNTS = 3;
    private static final int LAW_KINDS = 4;
    private static final int MOST_TOLD = 100;
    private static final int MOST_BLUNTS = 99;

    // What THE LAW may ask of a PART and a DEED.
    private static final int ASKS_EDGE = 0;
    private static final int ASKS_WEAR = 1;
    private static final int ASKS_GUILT = 2;
    private static final int ASKS_HARM = 3;
    private static final int ASKS_HARD = 4;
    private static final int ASKS_MASTER = 5;
    private static final int ASKS_DAY = 6;
    private static final int ASKS_TOOL = 7;
    private static final int ASKS_SORT = 8;
    private static final int ASKS_NAILED = 9;
    private static final int FACTS = 10;

    // Items of THE LAW's code: below FIRST_FACT a number, the others as they are named here.
    private static final int FIRST_FACT = 1000;
    private static final int FIRST_SORT = 1020;
    private static final int PLUS = 1030;
    private static final int LESS = 1031;
    private static final int MORE = 1032;
    private static final int NOT = 1033;
    private static final int AND = 1034;
    private static final int OR = 1035;
    private static final int OPEN = 1036;
    private static final int LINE_HEAD = 3;
    private static final int STACK = 40;

    // The things of a text: a byte that is no letter, digit or blank is a thing by itself, by its own number.
    private static final int END = -1;
    private static final int NUMBER = 256;
    private static final int NO_WORD = 257;
    private static final int FIRST_WORD = 300;
    // Each word has a blank behind it; a W_ number is FIRST_WORD and the word's place here.
    private static final String WORDS =
            "handle head joint nailed edge wear guilt harm hard master day tool answer plead heir blunt if and or not part nail damp need limit ";
    private static final int W_HANDLE = 300;
    private static final int W_NAILED = 303;
    private static final int W_EDGE = 304;
    private static final int W_WEAR = 305;
    private static final int W_MASTER = 309;
    private static final int W_TOOL = 311;
    private static final int W_ANSWER = 312;
    private static final int W_IF = 316;
    private static final int W_AND = 317;
    private static final int W_OR = 318;
    private static final int W_NOT = 319;
    private static final int W_PART = 320;
    private static final int W_NAIL = 321;
    private static final int W_DAMP = 322;
    private static final int W_NEED = 323;
    private static final int W_LIMIT = 324;

    private final Tape tape;
    private final ShopReader shopReader;
    private final LawReader lawReader;
    private final Hearing hearing;
    private final Laundry laundry;
    private final Cell cell;
    private final Memory memory;
    private final Court now;
    private final Court draft;
    private int fault;

    public ToolCourt() {
        tape = new Tape();
        hearing = new Hearing();
        laundry = new Laundry();
        cell = new Cell();
        memory = new Memory();
        Law unwritten = new Law(NONE, new int[0]);
        now = new Court(unwritten);
        draft = new Court(unwritten);
        shopReader = new ShopReader(tape, now, draft);
        lawReader = new LawReader(tape);
        fault = NONE;
    }

    // ---- the TAPE and the texts

    public int feed(int a, int b, int c, int d, int e) {
        if (!tape.hasRoom(20)) {
            return NONE;
        }
        tape.append(a);
        tape.append(b);
        tape.append(c);
        tape.append(d);
        tape.append(e);
        return tape.length;
    }

    public boolean end(int n) {
        return tape.cut(n);
    }

    public int shop() throws IllegalArgumentException, UnsupportedOperationException {
        boolean right = shopReader.readLines(MOST_SHOP_LINES);
        fault = shopReader.fault;
        tape.cut(0);
        if (!right) {
            throw new IllegalArgumentException("the text is wrong");
        }
        if (now.texts >= MOST_TEXTS) {
            throw new UnsupportedOperationException("there are 12 texts");
        }
        draft.texts++;
        now.copyFrom(draft);
        memory.forgetActs();
        return now.texts;
    }

    public int law() throws IllegalArgumentException {
        boolean right = lawReader.readLines(MOST_LAW_LINES);
        fault = lawReader.fault;
        tape.cut(0);
        if (!right) {
            throw new IllegalArgumentException("the text is wrong");
        }
        now.law = lawReader.made();
        memory.forgetActs();
        return now.law.lines;
    }

    public int fault() {
        return fault;
    }

    // ---- what there is

    public int part(int part, int what) throws IndexOutOfBoundsException, NoSuchElementException {
        needPart(part);
        if (what == PART_COLUMNS) {
            return shareOf(part);
        }
        needWhat(what, PART_COLUMNS);
        return now.parts.get(part, what);
    }

    public int tool(int tool, int what) throws IndexOutOfBoundsException, NoSuchElementException {
        needTool(tool);
        switch (what) {
            case HANDLE:
            case HEAD:
            case JOINT:
                return now.tools.get(tool, what);
            case 3:
                return now.answered(tool);
            case 4:
                return now.sentence(tool);
            case 5:
                return now.tools.get(tool, NEEDS);
            default:
                throw new NoSuchElementException("there is no such thing of a TOOL");
        }
    }

    public int master(int master, boolean harm) throws IndexOutOfBoundsException {
        needMaster(master);
        return harm ? harmOf(master) : now.masters.get(master, BENCH);
    }

    public int rule(int part, int what) throws IndexOutOfBoundsException, NoSuchElementException {
        needPart(part);
        needWhat(what, LAW_KINDS);
        return hearing.told(now, part, what);
    }

    // ---- ACTS

    public int deed(int tool, int master, int harm, int hard)
            throws IndexOutOfBoundsException, IllegalArgumentException, IllegalStateException,
            UnsupportedOperationException {
        needDeed(tool, master, harm, hard);
        if (now.truth.isFull()) {
            throw new UnsupportedOperationException("there are 60 DEEDS");
        }
        memory.keepAct(now);
        hearing.hearGuilt(now, tool, master, harm, hard);
        hearing.hearWear(now, tool, master, harm, hard);
        return commit(tool, master, harm, hard);
    }

    public int swap(int tool, int sort, int part)
            throws IndexOutOfBoundsException, IllegalArgumentException, IllegalStateException {
        needTool(tool);
        if (sort < 0 || sort >= SORTS) {
            throw new IndexOutOfBoundsException("there is no such SORT");
        }
        if (part != NONE) {
            needPart(part);
            if (now.parts.get(part, SORT) != sort) {
                throw new IllegalArgumentException("the PART is of another SORT");
            }
        }
        int goes = now.tools.get(tool, sort);
        needSwap(goes, part);
        memory.keepAct(now);
        int over = goes == NONE || part == NONE ? 0 : hearing.inherited(now, goes);
        now.take(goes);
        now.place(tool, sort, part);
        now.passOn(goes, part, over);
        return over;
    }

    public int serve(int tool, int days) throws IndexOutOfBoundsException, IllegalArgumentException {
        needTool(tool);
        if (days < 1 || days > MOST_SERVED) {
            throw new IllegalArgumentException("the days are none");
        }
        memory.keepAct(now);
        return now.workOff(tool, days * DAY_OF_WORK);
    }

    public int grind(int part)
            throws IndexOutOfBoundsException, IllegalArgumentException, IllegalStateException {
        needPart(part);
        needHeadPart(part);
        if (now.parts.get(part, GROUND) != 0) {
            throw new IllegalStateException("it was GROUND");
        }
        memory.keepAct(now);
        int wear = Math.max(0, now.parts.get(part, WEAR) - GROUND_OFF);
        now.parts.put(part, WEAR, wear);
        now.parts.put(part, GROUND, 1);
        return wear;
    }

    public boolean nail(int part, boolean fast) throws IndexOutOfBoundsException, IllegalStateException {
        needPart(part);
        if (now.isSpare(part)) {
            throw new IllegalStateException("the PART is SPARE");
        }
        memory.keepAct(now);
        boolean changed = now.isNailed(part) != fast;
        now.parts.put(part, NAILED, fast ? 1 : 0);
        return changed;
    }

    public int days(int n) throws IllegalArgumentException {
        if (n < 1 || n > MOST_DAYS) {
            throw new IllegalArgumentException("the DAYS are none");
        }
        memory.keepAct(now);
        int wear = 0;
        for (int i = 0; i < n; i++) {
            wear += now.passDay();
        }
        return wear;
    }

    // ---- who is GUILTY, and who can have done it

    public int guilty() {
        return now.guiltySet();
    }

    public int culprits(int edge, int grade, int day) throws IllegalArgumentException {
        needEdge(edge);
        needGrade(grade);
        if (day < 0 || day > now.day) {
            throw new IllegalArgumentException("the DAY is none");
        }
        int mark = edge * GRADE_STEP + grade;
        if (day == now.day) {
            return marksNow(mark);
        }
        int sheet = now.sheets.rows - (now.day - day);
        return now.sheets.has(sheet) ? marksThen(mark, sheet) : NONE;
    }

    public int ask(boolean many) {
        int edges = mostAlike(true);
        int grades = mostAlike(false);
        if (many) {
            return Math.min(edges, grades);
        }
        return grades < edges ? 1 : 0;
    }

    // ---- laundering

    public int laundered(int tool, boolean by) throws IndexOutOfBoundsException {
        needTool(tool);
        laundry.search(now, hearing, tool, 0, NONE);
        return by ? laundry.coming : laundry.fewest;
    }

    public int guard(int tool) throws IndexOutOfBoundsException {
        needTool(tool);
        laundry.search(now, hearing, tool, 0, NONE);
        if (laundry.fewest <= 0) {
            return 0;
        }
        int set = 0;
        for (int sort = 0; sort < SORTS; sort++) {
            laundry.search(now, hearing, tool, 1 << sort, NONE);
            if (laundry.fewest == NONE) {
                set |= 1 << sort;
            }
        }
        return set;
    }

    public int word(int tool) throws IndexOutOfBoundsException {
        needTool(tool);
        // With more HEIRS no way answers less, so the least word is found by halving.
        int low = 0;
        int high = MOST_TOLD + 1;
        for (int i = 0; i <= MOST_TOLD && low < high; i++) {
            int middle = (low + high) / 2;
            laundry.search(now, hearing, tool, 0, middle);
            if (laundry.fewest == NONE) {
                high = middle;
            } else {
                low = middle + 1;
            }
        }
        return low > MOST_TOLD ? NONE : low;
    }

    public int clean() {
        int guilty = now.guiltySet();
        int set = 0;
        for (int tool = 0; tool < now.tools.rows; tool++) {
            if (inSet(guilty, tool)) {
                laundry.search(now, hearing, tool, 0, NONE);
                set |= laundry.fewest == NONE ? 0 : 1 << tool;
            }
        }
        return set;
    }

    public int exchange(int tool, int other, boolean which)
            throws IndexOutOfBoundsException, IllegalArgumentException {
        needTwoTools(tool, other);
        int best = NONE;
        for (int set = 0; set < 1 << SORTS; set++) {
            boolean fewer = best == NONE || Integer.bitCount(set) < Integer.bitCount(best);
            if (fewer && exchangeHelps(tool, other, set)) {
                best = set;
            }
        }
        return which || best == NONE ? best : Integer.bitCount(best);
    }

    // ---- what TRUTH tells

    public int with(int part) throws IndexOutOfBoundsException {
        needPart(part);
        return deedsOf(part) == 0 ? 0 : alwaysThere(1 << part);
    }

    public int strokes(int part, boolean day) throws IndexOutOfBoundsException {
        needPart(part);
        return day ? mostOnOneDay(part) : deedsOf(part);
    }

    public int harmed(int from, int to) throws IllegalArgumentException {
        if (from < 0 || from > to) {
            throw new IllegalArgumentException("the DAYS are none");
        }
        int harm = 0;
        for (int i = 0; i < now.truth.rows; i++) {
            int day = now.truth.get(i, DEED_DAY);
            if (day >= from && day <= to) {
                harm += now.truth.get(i, DEED_HARM);
            }
        }
        return harm;
    }

    public int cell(int k) {
        cell.arrange(now);
        if (cell.fewest > MOST_CELL) {
            return TOO_LONG;
        }
        return k == NONE ? cell.fewest : cell.turn(k);
    }

    public int joint(int tool, int other) throws IndexOutOfBoundsException, IllegalArgumentException {
        needTwoTools(tool, other);
        int both = partsUsedIn(tool) & partsUsedIn(other);
        int guilt = 0;
        for (int part = 0; part < now.parts.rows; part++) {
            if (inSet(both, part)) {
                guilt += now.guiltOf(part);
            }
        }
        return guilt;
    }

    public int clock(int part, int grade, boolean last)
            throws IndexOutOfBoundsException, IllegalArgumentException {
        needPart(part);
        needHeadPart(part);
        needGrade(grade);
        int day = NONE;
        for (int i = 0; i < now.truth.rows; i++) {
            boolean such = inSet(now.truth.get(i, DEED_PARTS), part) && now.truth.get(i, DEED_GRADE) == grade;
            if (such && (last || day == NONE)) {
                day = now.truth.get(i, DEED_DAY);
            }
        }
        return day;
    }

    public int together(boolean first) throws IllegalArgumentException {
        int told = partsTold();
        tape.cut(0);
        if (told == NONE) {
            throw new IllegalArgumentException("a byte is no PART");
        }
        int deeds = 0;
        int day = NONE;
        for (int i = 0; i < now.truth.rows; i++) {
            if ((now.truth.get(i, DEED_PARTS) & told) == told) {
                day = deeds == 0 ? now.truth.get(i, DEED_DAY) : day;
                deeds++;
            }
        }
        return first ? day : deeds;
    }

    public int heir() {
        int heir = NONE;
        int most = 0;
        for (int part = 0; part < now.parts.rows; part++) {
            int came = now.parts.get(part, CAME);
            if (came > most) {
                most = came;
                heir = part;
            }
        }
        return heir;
    }

    public boolean jury(int jurors, int tool) throws IndexOutOfBoundsException {
        needTool(tool);
        int tried = now.answered(tool);
        int votes = 0;
        for (int juror = 0; juror < now.tools.rows; juror++) {
            if (inSet(jurors, juror)) {
                votes += now.answered(juror) < tried ? 1 : -1;
            }
        }
        return votes > 0;
    }

    public boolean alibi(int master, int day) throws IndexOutOfBoundsException, IllegalArgumentException {
        needMaster(master);
        if (day < 0) {
            throw new IllegalArgumentException("the DAY is none");
        }
        int bench = now.masters.get(master, BENCH);
        for (int i = 0; i < now.truth.rows; i++) {
            int away = now.masters.get(now.truth.get(i, DEED_MASTER), BENCH) - bench;
            if (now.truth.get(i, DEED_DAY) == day && Math.abs(away) < 2) {
                return false;
            }
        }
        return true;
    }

    public int worstMaster() {
        int worst = NONE;
        int most = 0;
        for (int master = 0; master < now.masters.rows; master++) {
            int harm = harmOf(master);
            if (harm > most) {
                most = harm;
                worst = master;
            }
        }
        return worst;
    }

    public int pairs(int master, int tool) throws IndexOutOfBoundsException {
        needMaster(master);
        needTool(tool);
        int deeds = 0;
        for (int i = 0; i < now.truth.rows; i++) {
            if (now.truth.get(i, DEED_MASTER) == master && now.truth.get(i, DEED_TOOL) == tool) {
                deeds++;
            }
        }
        return deeds;
    }

    // ---- what would be

    public int trial(int n) throws IllegalArgumentException {
        needTrialDays(n);
        return now.wearAfter(n, now.seed);
    }

    public int span(int n, boolean most) throws IllegalArgumentException {
        needTrialDays(n);
        int found = now.wearAfter(n, 1);
        for (int seed = 2; seed <= 6; seed++) {
            int wear = now.wearAfter(n, seed);
            found = most ? Math.max(found, wear) : Math.min(found, wear);
        }
        return found;
    }

    public int after(int tool, int master, int harm, int hard)
            throws IndexOutOfBoundsException, IllegalArgumentException, IllegalStateException {
        needDeed(tool, master, harm, hard);
        hearing.hearGuilt(now, tool, master, harm, hard);
        return now.answered(tool) + hearing.gains(harm);
    }

    public int worst(int tool, int master, int hard)
            throws IndexOutOfBoundsException, IllegalArgumentException, IllegalStateException {
        // The least HARM is never wrong, so that only what is told is looked at.
        needDeed(tool, master, 1, hard);
        int before = now.answered(tool);
        if (before > now.limit) {
            return NONE;
        }
        boolean askAgain = now.law.asksHarm();
        for (int harm = 1; harm <= MOST_HARM; harm++) {
            if (harm == 1 || askAgain) {
                hearing.hearGuilt(now, tool, master, harm, hard);
            }
            if (before + hearing.gains(harm) > now.limit) {
                return harm;
            }
        }
        return NONE;
    }

    public int sure(int edge) throws IllegalArgumentException {
        needEdge(edge);
        int set = now.allParts();
        for (int i = 0; i < now.truth.rows; i++) {
            if (now.truth.get(i, DEED_EDGE) == edge) {
                set &= now.truth.get(i, DEED_PARTS);
            }
        }
        return set;
    }

    // ---- TRUTH and THE LOG, row by row

    public int truth(int deed, int what) throws IndexOutOfBoundsException, NoSuchElementException {
        if (!now.truth.has(deed)) {
            throw new IndexOutOfBoundsException("there is no such DEED");
        }
        needWhat(what, DEED_COLUMNS);
        return now.truth.get(deed, what);
    }

    public int log(int ago, int what) throws NoSuchElementException {
        needWhat(what, LOG_COLUMNS);
        if (ago < 0 || ago >= now.log.rows) {
            return NO_ROW;
        }
        return now.log.get(now.log.rows - 1 - ago, what);
    }

    public int led(int part) throws IndexOutOfBoundsException {
        needPart(part);
        int rows = 0;
        for (int i = 0; i < now.log.rows; i++) {
            if (now.log.get(i, LOG_PART) == part) {
                rows++;
            }
        }
        return rows;
    }

    // ---- SEED, going back, counts

    public int seed(int n) {
        int was = now.seed;
        now.seed = n;
        return was;
    }

    public boolean undo() {
        return memory.takeBackAct(now);
    }

    public void image() {
        memory.keepImage(now);
    }

    public boolean back() {
        return memory.goBack(now);
    }

    public int count(int what) {
        switch (what) {
            case 0:
                return now.parts.rows;
            case 1:
                return now.tools.rows;
            case 2:
                return now.masters.rows;
            case 3:
                return now.texts;
            case 4:
                return now.law.lines;
            case 5:
                return now.day;
            case 6:
                return now.truth.rows;
            case 7:
                return now.limit;
            case 8:
                return now.damp;
            case 9:
                return now.spareSet();
            case 10:
                return now.guiltOfAll();
            case 11:
                return now.served;
            case 12:
                return now.log.rows;
            case 13:
                return memory.held;
            case 14:
                return now.sheets.rows;
            default:
                return NONE;
        }
    }

    // ---- what a call needs, or throws

    private void needPart(int part) {
        if (!now.parts.has(part)) {
            throw new IndexOutOfBoundsException("there is no such PART");
        }
    }

    private void needTool(int tool) {
        if (!now.tools.has(tool)) {
            throw new IndexOutOfBoundsException("there is no such TOOL");
        }
    }

    private void needMaster(int master) {
        if (!now.masters.has(master)) {
            throw new IndexOutOfBoundsException("there is no such MASTER");
        }
    }

    private void needTwoTools(int tool, int other) {
        needTool(tool);
        needTool(other);
        if (tool == other) {
            throw new IllegalArgumentException("both TOOLS are one");
        }
    }

    private void needHeadPart(int part) {
        if (now.parts.get(part, SORT) != HEAD) {
            throw new IllegalArgumentException("the PART is no head");
        }
    }

    private void needDeed(int tool, int master, int harm, int hard) {
        needTool(tool);
        needMaster(master);
        if (harm < 1 || harm > MOST_HARM || hard < 0 || hard > MOST_HARD) {
            throw new IllegalArgumentException("HARM or HARD are none");
        }
        if (now.tools.get(tool, HEAD) == NONE) {
            throw new IllegalStateException("there is no head");
        }
    }

    private void needSwap(int goes, int comes) {
        if (goes == NONE && comes == NONE) {
            throw new IllegalStateException("both are none");
        }
        if (goes != NONE && now.isNailed(goes)) {
            throw new IllegalStateException("the PART there is NAILED");
        }
        if (comes != NONE && !now.isSpare(comes)) {
            throw new IllegalStateException("the PART that comes is not SPARE");
        }
    }

    private static void needWhat(int what, int kinds) {
        if (what < 0 || what >= kinds) {
            throw new NoSuchElementException("there is no such thing to ask");
        }
    }

    private static void needEdge(int edge) {
        if (edge < 0 || edge > MOST_EDGE) {
            throw new IllegalArgumentException("the EDGE is none");
        }
    }

    private static void needGrade(int grade) {
        if (grade < 0 || grade > MOST_GRADE) {
            throw new IllegalArgumentException("the GRADE is none");
        }
    }

    private static void needTrialDays(int n) {
        if (n < 0 || n > MOST_DAYS) {
            throw new IllegalArgumentException("the DAYS are none");
        }
    }

    // ---- what the calls share

    private static boolean inSet(int set, int number) {
        return number >= 0 && number < 32 && (set >>> number & 1) != 0;
    }

    private int shareOf(int part) {
        if (now.isSpare(part)) {
            return 0;
        }
        int all = now.answered(now.parts.get(part, HOME));
        return all <= 0 ? 0 : (int) (now.guiltOf(part) * 10000L / all);
    }

    private int commit(int tool, int master, int harm, int hard) {
        int mark = now.markOf(tool);
        int deed = now.truth.open(0);
        int there = 0;
        for (int sort = 0; sort < SORTS; sort++) {
            int part = now.tools.get(tool, sort);
            if (part != NONE) {
                there |= 1 << part;
                now.blame(part, hearing.gain(sort, harm), deed, NONE);
                now.wearOff(part, hearing.blunt(sort) + (sort == HEAD ? hard : 0));
            }
        }
        now.truth.put(deed, DEED_DAY, now.day);
        now.truth.put(deed, DEED_TOOL, tool);
        now.truth.put(deed, DEED_MASTER, master);
        now.truth.put(deed, DEED_HARM, harm);
        now.truth.put(deed, DEED_EDGE, mark / GRADE_STEP);
        now.truth.put(deed, DEED_GRADE, mark % GRADE_STEP);
        now.truth.put(deed, DEED_PARTS, there);
        return mark;
    }

    private int marksNow(int mark) {
        int set = 0;
        for (int tool = 0; tool < now.tools.rows; tool++) {
            set |= now.markOf(tool) == mark ? 1 << tool : 0;
        }
        return set;
    }

    private int marksThen(int mark, int sheet) {
        int set = 0;
        for (int tool = 0; tool < MOST_TOOLS; tool++) {
            set |= now.sheets.get(sheet, tool) == mark ? 1 << tool : 0;
        }
        return set;
    }

    /** The most TOOLS whose heads have one EDGE, or one GRADE. */
    private int mostAlike(boolean byEdge) {
        int most = 0;
        for (int value = 0; value <= MOST_EDGE; value++) {
            int alike = 0;
            for (int tool = 0; tool < now.tools.rows; tool++) {
                int mark = now.markOf(tool);
                int seen = byEdge ? mark / GRADE_STEP : mark % GRADE_STEP;
                alike += mark != NONE && seen == value ? 1 : 0;
            }
            most = Math.max(most, alike);
        }
        return most;
    }

    /** Whether both TOOLS ANSWER LIMIT at most, if they exchange their PARTS of these SORTS. */
    private boolean exchangeHelps(int tool, int other, int sorts) {
        int first = now.answered(tool);
        int second = now.answered(other);
        for (int sort = 0; sort < SORTS; sort++) {
            if (inSet(sorts, sort)) {
                int one = now.tools.get(tool, sort);
                int two = now.tools.get(other, sort);
                if (one == NONE || two == NONE || now.isNailed(one) || now.isNailed(two)) {
                    return false;
                }
                // What HEIRS take stays at its place; only the rest goes along with the PART.
                int leaves = now.guiltOf(one) - hearing.inherited(now, one);
                int enters = now.guiltOf(two) - hearing.inherited(now, two);
                first += enters - leaves;
                second += leaves - enters;
            }
        }
        return first <= now.limit && second <= now.limit;
    }

    private int deedsOf(int part) {
        int deeds = 0;
        for (int i = 0; i < now.truth.rows; i++) {
            deeds += inSet(now.truth.get(i, DEED_PARTS), part) ? 1 : 0;
        }
        return deeds;
    }

    private int mostOnOneDay(int part) {
        int most = 0;
        int sameDay = 0;
        int latest = NONE;
        // DEEDS stand by DAYS, so those of one DAY follow one another.
        for (int i = 0; i < now.truth.rows; i++) {
            if (inSet(now.truth.get(i, DEED_PARTS), part)) {
                int day = now.truth.get(i, DEED_DAY);
                sameDay = day == latest ? sameDay + 1 : 1;
                latest = day;
                most = Math.max(most, sameDay);
            }
        }
        return most;
    }

    /** PARTS that were in the TOOL of each DEED in which all of these were. */
    private int alwaysThere(int these) {
        int set = now.allParts();
        for (int i = 0; i < now.truth.rows; i++) {
            int there = now.truth.get(i, DEED_PARTS);
            if ((there & these) == these) {
                set &= there;
            }
        }
        return set;
    }

    private int partsUsedIn(int tool) {
        int set = 0;
        for (int i = 0; i < now.truth.rows; i++) {
            set |= now.truth.get(i, DEED_TOOL) == tool ? now.truth.get(i, DEED_PARTS) : 0;
        }
        return set;
    }

    /** The PARTS that the TAPE tells, as bits; NONE, if a byte is no PART. */
    private int partsTold() {
        int set = 0;
        for (int i = 0; i < tape.length; i++) {
            int part = tape.byteAt(i);
            if (!now.parts.has(part)) {
                return NONE;
            }
            set |= 1 << part;
        }
        return set;
    }

    private int harmOf(int master) {
        int harm = 0;
        for (int i = 0; i < now.truth.rows; i++) {
            harm += now.truth.get(i, DEED_MASTER) == master ? now.truth.get(i, DEED_HARM) : 0;
        }
        return harm;
    }

    /** Rows of numbers; every index is looked at here, so that none who asks has to. */
    private static final class Table {
        private final int[] cells;
        private final int most;
        private final int width;
        private int rows;

        Table(int most, int width) {
            this.most = Math.max(0, most);
            this.width = Math.max(0, width);
            this.cells = new int[Math.max(0, this.most * this.width)];
        }

        boolean has(int row) {
            return row >= 0 && row < rows;
        }

        boolean isFull() {
            return rows >= most;
        }

        /** NONE, where there is no such row or column. */
        int get(int row, int column) {
            if (row < 0 || row >= rows || column < 0 || column >= width) {
                return NONE;
            }
            int at = row * width + column;
            return at < cells.length ? cells[at] : NONE;
        }

        /** Nothing happens, where there is no such row or column. */
        void put(int row, int column, int value) {
            if (row < 0 || row >= rows || column < 0 || column >= width) {
                return;
            }
            int at = row * width + column;
            if (at < cells.length) {
                cells[at] = value;
            }
        }

        void add(int row, int column, int more) {
            put(row, column, get(row, column) + more);
        }

        /** A row behind the others, each number of it the same; NONE without room. */
        int open(int value) {
            if (rows >= most) {
                return NONE;
            }
            rows++;
            for (int column = 0; column < width; column++) {
                put(rows - 1, column, value);
            }
            return rows - 1;
        }

        /** Like open, but where there is no room, the first row makes it. */
        int openLatest(int value) {
            if (rows >= most && rows > 0) {
                int kept = (rows - 1) * width;
                if (kept >= 0 && width + kept <= cells.length) {
                    System.arraycopy(cells, width, cells, 0, kept);
                }
                rows--;
            }
            return open(value);
        }

        void copyFrom(Table other) {
            int used = Math.max(0, Math.min(other.rows * other.width, Math.min(other.cells.length, cells.length)));
            System.arraycopy(other.cells, 0, cells, 0, used);
            rows = other.rows;
        }
    }

    /** The bytes that wait to be read. */
    private static final class Tape {
        private final int[] bytes = new int[MOST_BYTES];
        private int length;

        boolean hasRoom(int more) {
            return length + more <= bytes.length;
        }

        void append(int number) {
            for (int shift = 24; shift >= 0; shift -= 8) {
                if (length < bytes.length) {
                    bytes[length] = number >>> shift & 255;
                    length++;
                }
            }
        }

        boolean cut(int n) {
            if (n < 0 || n > length) {
                return false;
            }
            length = n;
            return true;
        }

        /** The byte there; NONE behind the last one. */
        int byteAt(int at) {
            return at >= 0 && at < length && at < bytes.length ? bytes[at] : NONE;
        }
    }

    /** All that an ACT or a text can change, and that goes back with it. */
    private static final class Court {
        private final Table parts = new Table(MOST_PARTS, PART_COLUMNS);
        private final Table tools = new Table(MOST_TOOLS, TOOL_COLUMNS);
        private final Table masters = new Table(MOST_MASTERS, MASTER_COLUMNS);
        private final Table truth = new Table(MOST_DEEDS, DEED_COLUMNS);
        private final Table log = new Table(MOST_LOG, LOG_COLUMNS);
        private final Table sheets = new Table(MOST_SHEETS, MOST_TOOLS);
        private Law law;
        private int texts;
        private int day;
        private int damp;
        private int limit;
        private int seed = 1;
        private int served;

        Court(Law law) {
            this.law = law;
        }

        void copyFrom(Court other) {
            parts.copyFrom(other.parts);
            tools.copyFrom(other.tools);
            masters.copyFrom(other.masters);
            truth.copyFrom(other.truth);
            log.copyFrom(other.log);
            sheets.copyFrom(other.sheets);
            law = other.law;
            texts = other.texts;
            day = other.day;
            damp = other.damp;
            limit = other.limit;
            seed = other.seed;
            served = other.served;
        }

        boolean isSpare(int part) {
            return parts.get(part, HOME) == NONE;
        }

        boolean isNailed(int part) {
            return parts.get(part, NAILED) == 1;
        }

        int guiltOf(int part) {
            return parts.has(part) ? parts.get(part, GUILT) : 0;
        }

        int guiltOfAll() {
            int guilt = 0;
            for (int part = 0; part < parts.rows; part++) {
                guilt += guiltOf(part);
            }
            return guilt;
        }

        int allParts() {
            return (1 << parts.rows) - 1;
        }

        int spareSet() {
            int set = 0;
            for (int part = 0; part < parts.rows; part++) {
                set |= isSpare(part) ? 1 << part : 0;
            }
            return set;
        }

        int answered(int tool) {
            int guilt = 0;
            for (int sort = 0; sort < SORTS; sort++) {
                guilt += guiltOf(tools.get(tool, sort));
            }
            return guilt;
        }

        int sentence(int tool) {
            return (answered(tool) + DAY_OF_WORK - 1) / DAY_OF_WORK;
        }

        int guiltySet() {
            int set = 0;
            for (int tool = 0; tool < tools.rows; tool++) {
                set |= answered(tool) > limit ? 1 << tool : 0;
            }
            return set;
        }

        /** 10 times EDGE, and GRADE, of the TOOL's head; NONE without one. */
        int markOf(int tool) {
            int head = tools.get(tool, HEAD);
            if (head == NONE) {
                return NONE;
            }
            return parts.get(head, EDGE) * GRADE_STEP + parts.get(head, WEAR) / GRADE_STEP;
        }

        void need(int tool, int daysOn) {
            tools.put(tool, NEEDS, tools.get(tool, NEEDS) | 1 << daysOn);
        }

        void place(int tool, int sort, int part) {
            tools.put(tool, sort, part);
            parts.put(part, HOME, tool);
        }

        void take(int part) {
            parts.put(part, HOME, NONE);
        }

        /** GUILT comes to a PART, and THE LOG leads it to where it came from. */
        void blame(int part, int guilt, int deed, int from) {
            if (guilt <= 0) {
                return;
            }
            parts.add(part, GUILT, guilt);
            int row = log.openLatest(0);
            log.put(row, LOG_DAY, day);
            log.put(row, LOG_PART, part);
            log.put(row, LOG_GUILT, guilt);
            log.put(row, LOG_DEED, deed);
            log.put(row, LOG_FROM, from);
        }

        void passOn(int from, int part, int guilt) {
            if (guilt > 0) {
                parts.add(from, GUILT, -guilt);
                parts.add(part, CAME, guilt);
                blame(part, guilt, NONE, from);
            }
        }

        int wearOff(int part, int more) {
            int wear = parts.get(part, WEAR);
            int then = Math.min(MOST_WEAR, wear + more);
            parts.put(part, WEAR, then);
            return then - wear;
        }

        /** Takes so much GUILT from the TOOL's PARTS, as far as there is. */
        int workOff(int tool, int most) {
            int left = most;
            for (int sort = 0; sort < SORTS; sort++) {
                int part = tools.get(tool, sort);
                int less = Math.min(left, guiltOf(part));
                parts.add(part, GUILT, -less);
                left -= less;
            }
            served += most - left;
            return most - left;
        }

        /** A DAY more: how much WEAR came. */
        int passDay() {
            int sheet = sheets.openLatest(NONE);
            for (int tool = 0; tool < tools.rows; tool++) {
                sheets.put(sheet, tool, markOf(tool));
                tools.put(tool, NEEDS, tools.get(tool, NEEDS) >>> 1);
            }
            seed = nextSeed(seed);
            day++;
            return isDamp(seed) ? rust() : 0;
        }

        /** WEAR of all heads together so many DAYS on, if SEED is that; nothing changes. */
        int wearAfter(int days, int firstSeed) {
            int dampDays = 0;
            int seedThen = firstSeed;
            for (int i = 0; i < days; i++) {
                seedThen = nextSeed(seedThen);
                dampDays += isDamp(seedThen) ? 1 : 0;
            }
            int wear = 0;
            for (int part = 0; part < parts.rows; part++) {
                if (parts.get(part, SORT) == HEAD) {
                    wear += Math.min(MOST_WEAR, parts.get(part, WEAR) + dampDays);
                }
            }
            return wear;
        }

        private int rust() {
            int came = 0;
            for (int part = 0; part < parts.rows; part++) {
                if (parts.get(part, SORT) == HEAD) {
                    came += wearOff(part, 1);
                }
            }
            return came;
        }

        private boolean isDamp(int drawn) {
            return (drawn >>> 16 & 32767) % 100 < damp;
        }

        private static int nextSeed(int seed) {
            return 1103515245 * seed + 12345;
        }
    }

    /** THE LAW as code: of each LINE its kind, its N, how many items its condition has, and these, operands first. */
    private static final class Law {
        private final int lines;
        private final int[] code;
        private final int[] stack = new int[STACK];

        /** Without a text lines is NONE. */
        Law(int lines, int[] code) {
            this.lines = lines;
            this.code = code;
        }

        boolean asksHarm() {
            for (int i = 0; i < code.length; i++) {
                if (code[i] == FIRST_FACT + ASKS_HARM) {
                    return true;
                }
            }
            return false;
        }

        /** The facts are a row of FACTS numbers. */
        int total(int kind, int[] facts) {
            if (facts.length < FACTS) {
                return 0;
            }
            if (lines == NONE) {
                return unwritten(kind, facts[ASKS_SORT]);
            }
            int sum = 0;
            int at = 0;
            for (int line = 0; line < lines && at + LINE_HEAD <= code.length; line++) {
                int from = at + LINE_HEAD;
                int to = from + code[at + 2];
                if (code[at] == kind && holds(from, to, facts)) {
                    sum += code[at + 1];
                }
                at = Math.max(to, from);
            }
            return Math.min(sum, kind == BLUNTS ? MOST_BLUNTS : MOST_TOLD);
        }

        private static int unwritten(int kind, int sort) {
            if (sort != HEAD) {
                return 0;
            }
            return kind == ANSWERS ? 100 : kind == BLUNTS ? 1 : 0;
        }

        /** Without a condition a LINE holds. */
        private boolean holds(int from, int to, int[] facts) {
            int top = 0;
            for (int i = from; i < to && i < code.length; i++) {
                int operands = code[i] < PLUS ? 0 : code[i] == NOT ? 1 : 2;
                int rest = top - operands;
                if (rest < 0 || rest >= stack.length || top > stack.length) {
                    return false;
                }
                int right = operands > 0 ? stack[top - 1] : 0;
                int left = operands > 1 ? stack[rest] : 0;
                stack[rest] = operands == 0 ? asked(code[i], facts) : joined(code[i], left, right);
                top = rest + 1;
            }
            return top == 0 || stack[0] != 0;
        }

        private static int asked(int item, int[] facts) {
            if (item < FIRST_FACT) {
                return item;
            }
            if (item >= FIRST_SORT) {
                return facts[ASKS_SORT] == item - FIRST_SORT ? 1 : 0;
            }
            int fact = item - FIRST_FACT;
            return fact < facts.length ? facts[fact] : 0;
        }

        private static int joined(int item, int left, int right) {
            switch (item) {
                case PLUS:
                    return left + right;
                case LESS:
                    return left < right ? 1 : 0;
                case MORE:
                    return left > right ? 1 : 0;
                case NOT:
                    return right == 0 ? 1 : 0;
                case AND:
                    return left != 0 && right != 0 ? 1 : 0;
                default:
                    return left != 0 || right != 0 ? 1 : 0;
            }
        }
    }

    /** Asks THE LAW: of one PART, or of all PARTS of a TOOL that does a DEED, ahead of it. */
    private static final class Hearing {
        private final int[] facts = new int[FACTS];
        private final int[] answers = new int[SORTS];
        private final int[] pleads = new int[SORTS];
        private final int[] blunts = new int[SORTS];

        /** Of a PART, of no DEED. */
        int told(Court court, int part, int kind) {
            layOut(court, part, 0, 0, 0);
            return court.law.total(kind, facts);
        }

        /** How much of its GUILT a PART leaves to the one that comes in its place. */
        int inherited(Court court, int part) {
            return court.guiltOf(part) * told(court, part, HEIRS) / 100;
        }

        void hearGuilt(Court court, int tool, int master, int harm, int hard) {
            for (int sort = 0; sort < SORTS; sort++) {
                int part = court.tools.get(tool, sort);
                boolean there = part != NONE;
                layOut(court, part, master, harm, hard);
                answers[sort] = there ? court.law.total(ANSWERS, facts) : 0;
                pleads[sort] = there ? court.law.total(PLEADS, facts) : 0;
            }
        }

        void hearWear(Court court, int tool, int master, int harm, int hard) {
            for (int sort = 0; sort < SORTS; sort++) {
                int part = court.tools.get(tool, sort);
                layOut(court, part, master, harm, hard);
                blunts[sort] = part == NONE ? 0 : court.law.total(BLUNTS, facts);
            }
        }

        int gain(int sort, int harm) {
            if (sort < 0 || sort >= SORTS) {
                return 0;
            }
            return harm * answers[sort] / 100 * (100 - pleads[sort]) / 100;
        }

        int gains(int harm) {
            return gain(HANDLE, harm) + gain(HEAD, harm) + gain(JOINT, harm);
        }

        int blunt(int sort) {
            return sort >= 0 && sort < SORTS ? blunts[sort] : 0;
        }

        private void layOut(Court court, int part, int master, int harm, int hard) {
            facts[ASKS_EDGE] = court.parts.get(part, EDGE);
            facts[ASKS_WEAR] = court.parts.get(part, WEAR);
            facts[ASKS_GUILT] = court.guiltOf(part);
            facts[ASKS_HARM] = harm;
            facts[ASKS_HARD] = hard;
            facts[ASKS_MASTER] = master;
            facts[ASKS_DAY] = court.day;
            facts[ASKS_TOOL] = Math.max(0, court.parts.get(part, HOME));
            facts[ASKS_SORT] = court.parts.get(part, SORT);
            facts[ASKS_NAILED] = court.parts.get(part, NAILED);
        }
    }

    /** Looks through the SWAPS by which a TOOL is LAUNDERED. */
    private static final class Laundry {
        // Of each SORT the ways: ahead of all no SWAP, then the SPARE PARTS that may come.
        private final int[][] answers = new int[SORTS][MOST_PARTS + 1];
        private final int[][] comes = new int[SORTS][MOST_PARTS + 1];
        private final int[] ways = new int[SORTS];
        private int fewest = NONE;
        private int coming = NONE;

        /** SORTS in shut are not swapped; heirs stands in place of THE LAW's, if it is not NONE. */
        void search(Court court, Hearing hearing, int tool, int shut, int heirs) {
            for (int sort = 0; sort < SORTS; sort++) {
                ways[sort] = 0;
                addWay(sort, court.guiltOf(court.tools.get(tool, sort)), 0);
                if (!inSet(shut, sort)) {
                    addSwaps(court, hearing, tool, sort, heirs);
                }
            }
            fewest = NONE;
            coming = NONE;
            for (int i = 0; i < ways[HANDLE]; i++) {
                for (int j = 0; j < ways[HEAD]; j++) {
                    for (int k = 0; k < ways[JOINT]; k++) {
                        consider(i, j, k, court.limit);
                    }
                }
            }
        }

        private void addSwaps(Court court, Hearing hearing, int tool, int sort, int heirs) {
            int goes = court.tools.get(tool, sort);
            if (goes == NONE || court.isNailed(goes)) {
                return;
            }
            int over = heirs == NONE ? hearing.inherited(court, goes) : court.guiltOf(goes) * heirs / 100;
            for (int part = 0; part < court.parts.rows; part++) {
                if (court.isSpare(part) && court.parts.get(part, SORT) == sort) {
                    addWay(sort, court.guiltOf(part) + over, 1 << part);
                }
            }
        }

        private void addWay(int sort, int guilt, int part) {
            if (sort >= 0 && sort < SORTS && ways[sort] < answers[sort].length && ways[sort] < comes[sort].length) {
                answers[sort][ways[sort]] = guilt;
                comes[sort][ways[sort]] = part;
                ways[sort]++;
            }
        }

        /** The ways are looked at in their order, so of those with the fewest SWAPS the first stays. */
        private void consider(int i, int j, int k, int limit) {
            int guilt = wayOf(answers, HANDLE, i) + wayOf(answers, HEAD, j) + wayOf(answers, JOINT, k);
            int swaps = Math.min(1, i) + Math.min(1, j) + Math.min(1, k);
            if (guilt <= limit && (fewest == NONE || swaps < fewest)) {
                fewest = swaps;
                coming = wayOf(comes, HANDLE, i) | wayOf(comes, HEAD, j) | wayOf(comes, JOINT, k);
            }
        }

        private static int wayOf(int[][] rows, int sort, int way) {
            boolean there = sort >= 0 && sort < rows.length && way >= 0 && way < rows[sort].length;
            return there ? rows[sort][way] : 0;
        }
    }

    /** Finds the order in which all GUILTY TOOLS are done in the fewest days. */
    private static final class Cell {
        private final int[] order = new int[MOST_TOOLS];
        private final int[] best = new int[MOST_TOOLS];
        private final int[] sentences = new int[MOST_TOOLS];
        private final int[] needs = new int[MOST_TOOLS];
        private int tools;
        private int fewest;

        /** Afterwards fewest is MOST_CELL + 1, if all orders last longer than that many days. */
        void arrange(Court court) {
            int work = callUp(court);
            fewest = MOST_CELL + 1;
            // Six TOOLS have 720 orders; they come by numbers, so the first of the best stays.
            boolean more = work <= MOST_CELL;
            for (int i = 0; i < 720 && more; i++) {
                int days = lasts();
                if (days < fewest) {
                    fewest = days;
                    System.arraycopy(order, 0, best, 0, order.length);
                }
                // No order lasts less than all the work in it.
                more = fewest > work && nextOrder();
            }
        }

        int turn(int k) {
            return k >= 0 && k < tools && k < best.length ? best[k] : NONE;
        }

        /** Puts the GUILTY TOOLS in their first order: how many days of work they have. */
        private int callUp(Court court) {
            int guilty = court.guiltySet();
            int work = 0;
            tools = 0;
            for (int tool = 0; tool < court.tools.rows && tool < MOST_TOOLS; tool++) {
                sentences[tool] = court.sentence(tool);
                needs[tool] = court.tools.get(tool, NEEDS);
                if (inSet(guilty, tool) && tools < order.length) {
                    order[tools] = tool;
                    tools++;
                    work += sentences[tool];
                }
            }
            return work;
        }

        private int lasts() {
            int day = 0;
            for (int i = 0; i < tools; i++) {
                int tool = toolAt(i);
                boolean there = tool >= 0 && tool < MOST_TOOLS;
                int left = there ? sentences[tool] : 0;
                int needed = there ? needs[tool] : 0;
                while (left > 0 && day <= MOST_CELL) {
                    left -= day < NEED_DAYS && (needed >>> day & 1) != 0 ? 0 : 1;
                    day++;
                }
            }
            return day;
        }

        /** Puts the next order by numbers in place; false behind the last one. */
        private boolean nextOrder() {
            int at = tools - 2;
            while (at >= 0 && toolAt(at) > toolAt(at + 1)) {
                at--;
            }
            if (at < 0) {
                return false;
            }
            int next = tools - 1;
            while (next > at && toolAt(next) < toolAt(at)) {
                next--;
            }
            exchangeTurns(at, next);
            for (int low = at + 1, high = tools - 1; low < high; low++, high--) {
                exchangeTurns(low, high);
            }
            return true;
        }

        private int toolAt(int turn) {
            return turn >= 0 && turn < order.length ? order[turn] : NONE;
        }

        private void exchangeTurns(int one, int other) {
            if (one >= 0 && one < order.length && other >= 0 && other < order.length) {
                int kept = order[one];
                order[one] = order[other];
                order[other] = kept;
            }
        }
    }

    /** What can be gone back to: the latest ACTS, and THE IMAGE. Rows are made when they are first needed. */
    private static final class Memory {
        private final Court[] acts = new Court[MOST_ACTS];
        private int oldest;
        private int held;
        private Court kept;

        /** Keeps all as it is ahead of an ACT. */
        void keepAct(Court court) {
            int at = (oldest + held) % MOST_ACTS;
            if (held == MOST_ACTS) {
                oldest = (oldest + 1) % MOST_ACTS;
            } else {
                held++;
            }
            if (at >= 0 && at < acts.length) {
                acts[at] = copied(court, acts[at]);
            }
        }

        boolean takeBackAct(Court court) {
            if (held <= 0) {
                return false;
            }
            held--;
            int at = (oldest + held) % MOST_ACTS;
            if (at >= 0 && at < acts.length && acts[at] != null) {
                court.copyFrom(acts[at]);
            }
            return true;
        }

        void forgetActs() {
            held = 0;
        }

        void keepImage(Court court) {
            kept = copied(court, kept);
        }

        boolean goBack(Court court) {
            if (kept == null) {
                return false;
            }
            court.copyFrom(kept);
            forgetActs();
            return true;
        }

        private static Court copied(Court court, Court used) {
            Court copy = used == null ? new Court(court.law) : used;
            copy.copyFrom(court);
            return copy;
        }
    }

    /** Splits a text in its things and reads it LINE by LINE; the first wrong thing ends it. */
    private abstract static class TextReader {
        private final Tape tape;
        private final int[] things = new int[MOST_BYTES];
        private final int[] begins = new int[MOST_BYTES];
        private final int[] digits = new int[MOST_BYTES];
        private final int[] numbers = new int[MOST_BYTES];
        private int count;
        private int at;
        /** The thing that comes next, END behind the last one, and where it begins. */
        int thing;
        int begin;
        /** The number taken last. */
        int number;
        int lines;
        int fault = NONE;

        TextReader(Tape tape) {
            this.tape = tape;
        }

        /** Makes ready what the LINES are read into. */
        abstract void start();

        abstract boolean readLine();

        boolean readLines(int most) {
            start();
            split();
            lines = 0;
            fault = NONE;
            if (thing == END) {
                return true;
            }
            for (int i = 0; i < most; i++) {
                if (!readLine()) {
                    return false;
                }
                lines++;
                if (thing == END) {
                    return true;
                }
                if (!takeThing(';')) {
                    return false;
                }
            }
            return wrong(begin);
        }

        boolean wrong(int where) {
            fault = where;
            return false;
        }

        void goOn() {
            at++;
            boolean there = at >= 0 && at < count && at < MOST_BYTES;
            thing = there ? things[at] : END;
            begin = there ? begins[at] : tape.length;
        }

        /** Goes on, if that comes next; else the text is wrong there. */
        boolean takeThing(int wanted) {
            if (thing != wanted) {
                return wrong(begin);
            }
            goOn();
            return true;
        }

        /** Takes a number of so many digits and so much at most, or the text is wrong there. */
        boolean takeNumber(int mostDigits, int most) {
            if (thing != NUMBER || at < 0 || at >= MOST_BYTES) {
                return wrong(begin);
            }
            if (digits[at] > mostDigits || numbers[at] > most) {
                return wrong(begin);
            }
            number = numbers[at];
            goOn();
            return true;
        }

        private void split() {
            count = 0;
            int from = 0;
            while (from < tape.length) {
                int to = from + 1;
                int sign = tape.byteAt(from);
                if (isLetter(sign)) {
                    to = wordEnd(from);
                    note(wordOf(from, to), from, 0, 0);
                } else if (isDigit(sign)) {
                    to = numberEnd(from);
                    note(NUMBER, from, to - from, numberOf(from, to));
                } else if (sign != ' ') {
                    note(sign, from, 0, 0);
                }
                from = Math.max(to, from + 1);
            }
            at = -1;
            goOn();
        }

        private void note(int thing, int begin, int digitCount, int value) {
            if (count >= 0 && count < MOST_BYTES) {
                things[count] = thing;
                begins[count] = begin;
                digits[count] = digitCount;
                numbers[count] = value;
                count++;
            }
        }

        private int wordEnd(int from) {
            int to = from;
            while (to < tape.length && isLetter(tape.byteAt(to))) {
                to++;
            }
            return to;
        }

        private int numberEnd(int from) {
            int to = from;
            while (to < tape.length && isDigit(tape.byteAt(to))) {
                to++;
            }
            return to;
        }

        /** Digits beyond the fifth are left out: so long a number is wrong anyway. */
        private int numberOf(int from, int to) {
            int value = 0;
            for (int i = from; i < to && i < from + 5; i++) {
                value = value * 10 + tape.byteAt(i) - '0';
            }
            return value;
        }

        private int wordOf(int from, int to) {
            int word = FIRST_WORD;
            int next = from;
            boolean same = true;
            for (int i = 0; i < WORDS.length(); i++) {
                char sign = WORDS.charAt(i);
                if (sign != ' ') {
                    same = same && next < to && tape.byteAt(next) == sign;
                    next++;
                } else if (same && next == to) {
                    return word;
                } else {
                    word++;
                    next = from;
                    same = true;
                }
            }
            return NO_WORD;
        }

        private static boolean isLetter(int sign) {
            return sign >= 'a' && sign <= 'z';
        }

        private static boolean isDigit(int sign) {
            return sign >= '0' && sign <= '9';
        }
    }

    /** Reads a text of THE SHOP into a draft, which is not used, if the text is wrong. */
    private static final class ShopReader extends TextReader {
        private static final int DIGITS = 4;
        private final Court now;
        private final Court draft;

        ShopReader(Tape tape, Court now, Court draft) {
            super(tape);
            this.now = now;
            this.draft = draft;
        }

        void start() {
            draft.copyFrom(now);
        }

        boolean readLine() {
            int begun = begin;
            int word = thing;
            goOn();
            switch (word) {
                case W_PART:
                    return draft.parts.isFull() ? wrong(begun) : readPart();
                case W_TOOL:
                    return draft.tools.isFull() ? wrong(begun) : readTool();
                case W_MASTER:
                    return draft.masters.isFull() ? wrong(begun) : readMaster();
                case W_NAIL:
                    return readNail();
                case W_DAMP:
                    return readDamp();
                case W_NEED:
                    return readNeed();
                case W_LIMIT:
                    return readLimit();
                default:
                    return wrong(begun);
            }
        }

        private boolean readPart() {
            int sort = thing - W_HANDLE;
            if (sort < 0 || sort >= SORTS) {
                return wrong(begin);
            }
            goOn();
            if (!takeThing(W_EDGE) || !takeNumber(DIGITS, MOST_EDGE)) {
                return false;
            }
            int edge = number;
            if (!takeThing(W_WEAR) || !takeNumber(DIGITS, MOST_WEAR)) {
                return false;
            }
            int part = draft.parts.open(0);
            draft.parts.put(part, SORT, sort);
            draft.parts.put(part, EDGE, edge);
            draft.parts.put(part, WEAR, number);
            draft.parts.put(part, HOME, NONE);
            return true;
        }

        private boolean readTool() {
            int tool = draft.tools.open(NONE);
            draft.tools.put(tool, NEEDS, 0);
            if (!readPartOf(tool)) {
                return false;
            }
            // The PARTS are of unlike SORTS, so one more than there are SORTS is refused by itself.
            for (int i = 0; i < SORTS && thing == NUMBER; i++) {
                if (!readPartOf(tool)) {
                    return false;
                }
            }
            return true;
        }

        private boolean readPartOf(int tool) {
            int begun = begin;
            if (!takeNumber(DIGITS, draft.parts.rows - 1)) {
                return false;
            }
            int sort = draft.parts.get(number, SORT);
            if (!draft.isSpare(number) || draft.tools.get(tool, sort) != NONE) {
                return wrong(begun);
            }
            draft.place(tool, sort, number);
            return true;
        }

        private boolean readMaster() {
            if (!takeNumber(DIGITS, MOST_BENCH)) {
                return false;
            }
            draft.masters.open(number);
            return true;
        }

        private boolean readNail() {
            int begun = begin;
            if (!takeNumber(DIGITS, draft.parts.rows - 1)) {
                return false;
            }
            if (draft.isSpare(number)) {
                return wrong(begun);
            }
            draft.parts.put(number, NAILED, 1);
            return true;
        }

        private boolean readDamp() {
            if (!takeNumber(DIGITS, MOST_DAMP)) {
                return false;
            }
            draft.damp = number;
            return true;
        }

        private boolean readNeed() {
            if (!takeNumber(DIGITS, NEED_DAYS - 1)) {
                return false;
            }
            int daysOn = number;
            if (!takeNumber(DIGITS, draft.tools.rows - 1)) {
                return false;
            }
            draft.need(number, daysOn);
            return true;
        }

        private boolean readLimit() {
            if (!takeNumber(DIGITS, MOST_LIMIT)) {
                return false;
            }
            draft.limit = number;
            return true;
        }
    }

    /**
     * Reads a text of THE LAW and turns it to code. A condition is read without recursion: what waits for its
     * operand (an open bracket, not, and, or) stands on a stack of its own.
     */
    private static final class LawReader extends TextReader {
        private static final int DIGITS = 3;
        private static final int MOST_NUMBER = 999;
        private final int[] code = new int[MOST_BYTES];
        private final int[] waiting = new int[STACK];
        private int length;
        private int top;
        private int brackets;
        private int depth;

        LawReader(Tape tape) {
            super(tape);
        }

        Law made() {
            return new Law(lines, Arrays.copyOf(code, Math.max(0, length)));
        }

        void start() {
            length = 0;
        }

        boolean readLine() {
            int kind = thing - W_ANSWER;
            if (kind < 0 || kind >= LAW_KINDS) {
                return wrong(begin);
            }
            goOn();
            if (!takeNumber(DIGITS, kind == BLUNTS ? MOST_BLUNTS : MOST_NUMBER)) {
                return false;
            }
            write(kind);
            write(number);
            int items = length;
            write(0);
            if (thing == W_IF && !readCondition()) {
                return false;
            }
            if (items >= 0 && items < code.length) {
                code[items] = length - items - 1;
            }
            return true;
        }

        private boolean readCondition() {
            top = 0;
            brackets = 0;
            depth = 0;
            boolean more = true;
            for (int i = 0; i < MOST_BYTES && more; i++) {
                // The word if, and, or stands here.
                goOn();
                if (!readOpening() || !readPlain()) {
                    return false;
                }
                closeAtoms();
                more = thing == W_AND || thing == W_OR;
                if (more) {
                    join(thing == W_AND ? AND : OR);
                }
            }
            writeWaiting(OR);
            return brackets == 0 || wrong(begin);
        }

        /** The brackets that open and the nots ahead of an ATOM. */
        private boolean readOpening() {
            for (int i = 0; i < MOST_BYTES && (thing == '(' || thing == W_NOT); i++) {
                if (depth >= MOST_DEPTH) {
                    return wrong(begin);
                }
                depth++;
                brackets += thing == '(' ? 1 : 0;
                await(thing == '(' ? OPEN : NOT);
                goOn();
            }
            return true;
        }

        /** An ATOM without bracket and not. */
        private boolean readPlain() {
            if (thing >= W_HANDLE && thing <= W_NAILED) {
                write(thing == W_NAILED ? FIRST_FACT + ASKS_NAILED : FIRST_SORT + thing - W_HANDLE);
                goOn();
                return true;
            }
            if (!readSum()) {
                return false;
            }
            int sign = thing;
            if (sign != '<' && sign != '>') {
                return wrong(begin);
            }
            goOn();
            return readSum() && write(sign == '<' ? LESS : MORE);
        }

        private boolean readSum() {
            for (int i = 0; i < MOST_BYTES; i++) {
                if (thing >= W_EDGE && thing <= W_TOOL) {
                    write(FIRST_FACT + thing - W_EDGE);
                    goOn();
                } else if (takeNumber(DIGITS, MOST_NUMBER)) {
                    write(number);
                } else {
                    return false;
                }
                if (i > 0) {
                    write(PLUS);
                }
                if (thing != '+') {
                    return true;
                }
                goOn();
            }
            return wrong(begin);
        }

        /** Behind an ATOM: the nots ahead of it are done, and so is what each closing bracket ends. */
        private void closeAtoms() {
            writeNots();
            for (int i = 0; i < MOST_BYTES && thing == ')' && brackets > 0; i++) {
                writeWaiting(OR);
                dropWaiting();
                brackets--;
                depth--;
                goOn();
                writeNots();
            }
        }

        private void writeNots() {
            while (top > 0 && top <= waiting.length && waiting[top - 1] == NOT) {
                write(NOT);
                depth--;
                top--;
            }
        }

        /** and binds more than or, so an or that waits goes on waiting for an and. */
        private void join(int item) {
            writeWaiting(item);
            await(item);
        }

        /** Writes each and that waits in this bracket; each or, too, if it is an or that comes, or the end. */
        private void writeWaiting(int coming) {
            while (top > 0 && top <= waiting.length
                    && (waiting[top - 1] == AND || waiting[top - 1] == OR && coming == OR)) {
                write(waiting[top - 1]);
                top--;
            }
        }

        private void await(int item) {
            if (top >= 0 && top < waiting.length) {
                waiting[top] = item;
                top++;
            }
        }

        private void dropWaiting() {
            if (top > 0) {
                top--;
            }
        }

        /** A text has at least as many bytes as its code has items, so there is always room. */
        private boolean write(int item) {
            if (length >= 0 && length < code.length) {
                code[length] = item;
                length++;
            }
            return true;
        }
    }
}
