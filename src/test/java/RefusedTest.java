import java.util.List;
import java.util.concurrent.Callable;
import java.util.function.Function;

/**
 * Every call that throws, for each number that it refuses, at either end and far off: the exception that is due, of
 * several the one told first, and that it "changes nothing but the TAPE, where it is used up, and fault(), where a
 * text is read". And every call that only asks: it changes nothing at all.
 */
public final class RefusedTest {
    private static final int MIN = Integer.MIN_VALUE;
    private static final int MAX = Integer.MAX_VALUE;
    private static final int PARTS = 9;
    private static final int TOOLS = 4;
    private static final int MASTERS = 3;
    private static final int DEEDS = 2;
    private static final int TODAY = 2;
    private static final int HEADLESS = 2;

    private static final int[] NO_PART = {-1, PARTS, MIN, MAX};
    private static final int[] NO_TOOL = {-1, TOOLS, 6, MIN, MAX};
    private static final int[] NO_MASTER = {-1, MASTERS, 6, MIN, MAX};

    /** PART 4 is NAILED, PART 1 GROUND, TOOL 2 has no head; fault() is 6, an image is kept, the TAPE has a text. */
    private static final Scene BUSY = Scene.of(
            x -> Kit.shop(x, Kit.SHOP),
            x -> Kit.shop(x, "part joint edge 4 wear 50;part head edge 9 wear 99;tool 7;tool 8;nail 4;damp 60;"
                    + "need 0 0;need 3 0;need 31 1"),
            x -> Kit.law(x, "answer 50 if head;answer 30 if handle;heir 40;blunt 3 if joint or handle"),
            x -> x.deed(0, 0, 100, 5),
            x -> x.days(2),
            x -> x.grind(1),
            x -> x.image(),
            x -> x.deed(1, 1, 80, 3),
            x -> x.swap(0, 0, 6),
            x -> x.serve(0, 2),
            x -> Kit.shopFault(x, "limit x"),
            x -> Kit.feed(x, "plead 7;heir 9 if nailed"));

    private static final Scene EMPTY = Scene.of(x -> Kit.feed(x, "heir 9"));

    private static final Scene SIXTY = Scene.of(
            x -> Kit.shop(x, Kit.SHOP),
            x -> sixtyDeeds(x),
            x -> x.swap(1, 1, -1),
            x -> x.image(),
            x -> Kit.feed(x, "heir 9"));

    private static final Scene TWELVE_TEXTS = Scene.of(
            x -> Kit.shop(x, Kit.SHOP),
            x -> elevenTexts(x),
            x -> x.image(),
            x -> x.deed(0, 0, 80, 5),
            x -> Kit.lawFault(x, "heir x"));

    private final Scene scene;
    private final String whole;

    private RefusedTest(Scene scene) {
        this.scene = scene;
        this.whole = scene.whole();
    }

    public static void main(String[] args) {
        RefusedTest busy = new RefusedTest(BUSY);
        busy.whatThereIs();
        busy.deedLike();
        busy.acts();
        busy.swaps();
        busy.askedOfOne();
        busy.askedOfTwo();
        busy.askedByNumbers();
        busy.severalExceptions();
        busy.askingChangesNothing();
        new RefusedTest(EMPTY).emptyShop();
        new RefusedTest(SIXTY).sixtyDeedsAreDone();
        tapeIsUsedUp();
        Kit.close();
    }

    private static void sixtyDeeds(ToolCourt x) {
        for (int i = 0; i < 60; i++) {
            x.deed(0, 0, 1 + i, 0);
        }
    }

    private static void elevenTexts(ToolCourt x) {
        for (int i = 0; i < 11; i++) {
            Kit.shop(x, "limit " + i);
        }
    }

    /** The call, of which each court it is made on tells the answer, throws that and changes nothing. */
    private void refused(String call, String exception, Function<ToolCourt, Object> made) {
        ToolCourt x = scene.play();
        Kit.refused(call, exception, () -> made.apply(x));
        Kit.due(call + " changes nothing", scene.then(made::apply).whole(), whole);
    }

    private void asked(String call, Function<ToolCourt, Object> made) {
        ToolCourt x = scene.play();
        Kit.due(call + " is answered", Kit.answer(() -> made.apply(x)).startsWith("throws"), false);
        Kit.due(call + " changes nothing", scene.then(made::apply).whole(), whole);
    }

    private static int[] beside(int first, int last) {
        return new int[] {first - 1, last + 1, MIN, MAX};
    }

    private void whatThereIs() {
        for (int n : NO_PART) {
            refused("7: part(" + n + ", 0)", Kit.INDEX, x -> x.part(n, 0));
            refused("10: rule(" + n + ", 0)", Kit.INDEX, x -> x.rule(n, 0));
        }
        for (int n : NO_TOOL) {
            refused("8: tool(" + n + ", 0)", Kit.INDEX, x -> x.tool(n, 0));
        }
        for (int n : NO_MASTER) {
            refused("9: master(" + n + ", false)", Kit.INDEX, x -> x.master(n, false));
            refused("9: master(" + n + ", true)", Kit.INDEX, x -> x.master(n, true));
        }
        for (int n : beside(0, DEEDS - 1)) {
            refused("42: truth(" + n + ", 0)", Kit.INDEX, x -> x.truth(n, 0));
        }
        for (int what : beside(0, 8)) {
            refused("7: part(0, " + what + ")", Kit.NO_ELEMENT, x -> x.part(0, what));
        }
        for (int what : beside(0, 5)) {
            refused("8: tool(0, " + what + ")", Kit.NO_ELEMENT, x -> x.tool(0, what));
        }
        for (int what : beside(0, 3)) {
            refused("10: rule(0, " + what + ")", Kit.NO_ELEMENT, x -> x.rule(0, what));
        }
        for (int what : beside(0, 6)) {
            refused("42: truth(0, " + what + ")", Kit.NO_ELEMENT, x -> x.truth(0, what));
        }
        for (int what : beside(0, 4)) {
            refused("43: log(0, " + what + ")", Kit.NO_ELEMENT, x -> x.log(0, what));
            refused("43: log(99, " + what + "), where no row is", Kit.NO_ELEMENT, x -> x.log(99, what));
        }
    }

    private void deedLike() {
        for (int n : NO_TOOL) {
            refused("11: deed, TOOL " + n, Kit.INDEX, x -> x.deed(n, 0, 1, 0));
            refused("39: after, TOOL " + n, Kit.INDEX, x -> x.after(n, 0, 1, 0));
            refused("40: worst, TOOL " + n, Kit.INDEX, x -> x.worst(n, 0, 0));
        }
        for (int n : NO_MASTER) {
            refused("11: deed, MASTER " + n, Kit.INDEX, x -> x.deed(0, n, 1, 0));
            refused("39: after, MASTER " + n, Kit.INDEX, x -> x.after(0, n, 1, 0));
            refused("40: worst, MASTER " + n, Kit.INDEX, x -> x.worst(0, n, 0));
        }
        for (int harm : beside(1, 999)) {
            refused("11: deed, HARM " + harm, Kit.ARGUMENT, x -> x.deed(0, 0, harm, 0));
            refused("39: after, HARM " + harm, Kit.ARGUMENT, x -> x.after(0, 0, harm, 0));
        }
        for (int hard : beside(0, 9)) {
            refused("11: deed, HARD " + hard, Kit.ARGUMENT, x -> x.deed(0, 0, 1, hard));
            refused("39: after, HARD " + hard, Kit.ARGUMENT, x -> x.after(0, 0, 1, hard));
            refused("40: worst, HARD " + hard, Kit.ARGUMENT, x -> x.worst(0, 0, hard));
        }
        refused("11: deed without a head", Kit.STATE, x -> x.deed(HEADLESS, 0, 1, 0));
        refused("39: after without a head", Kit.STATE, x -> x.after(HEADLESS, 0, 1, 0));
        refused("40: worst without a head", Kit.STATE, x -> x.worst(HEADLESS, 0, 0));
    }

    private void acts() {
        for (int n : NO_TOOL) {
            refused("13: serve, TOOL " + n, Kit.INDEX, x -> x.serve(n, 1));
        }
        for (int days : beside(1, 99)) {
            refused("13: serve, days " + days, Kit.ARGUMENT, x -> x.serve(0, days));
        }
        for (int n : NO_PART) {
            refused("14: grind, PART " + n, Kit.INDEX, x -> x.grind(n));
            refused("15: nail, PART " + n, Kit.INDEX, x -> x.nail(n, true));
            refused("15: free, PART " + n, Kit.INDEX, x -> x.nail(n, false));
        }
        refused("14: grind a handle", Kit.ARGUMENT, x -> x.grind(0));
        refused("14: grind a joint", Kit.ARGUMENT, x -> x.grind(2));
        refused("14: grind again", Kit.STATE, x -> x.grind(1));
        refused("15: nail a SPARE one", Kit.STATE, x -> x.nail(5, true));
        refused("15: free a SPARE one", Kit.STATE, x -> x.nail(5, false));
        for (int days : beside(1, 60)) {
            refused("16: days(" + days + ")", Kit.ARGUMENT, x -> x.days(days));
        }
    }

    private void swaps() {
        for (int n : NO_TOOL) {
            refused("12: swap, TOOL " + n, Kit.INDEX, x -> x.swap(n, 1, 5));
        }
        for (int sort : beside(0, 2)) {
            refused("12: swap, SORT " + sort, Kit.INDEX, x -> x.swap(0, sort, 5));
            refused("12: swap for none, SORT " + sort, Kit.INDEX, x -> x.swap(0, sort, -1));
        }
        for (int n : new int[] {-2, PARTS, MIN, MAX}) {
            refused("12: swap, PART " + n, Kit.INDEX, x -> x.swap(0, 1, n));
        }
        refused("12: a head for a handle", Kit.ARGUMENT, x -> x.swap(0, 0, 5));
        refused("12: a handle for a joint", Kit.ARGUMENT, x -> x.swap(0, 2, 0));
        refused("12: the one there is NAILED", Kit.STATE, x -> x.swap(1, 1, 5));
        refused("12: the one there is NAILED, for none", Kit.STATE, x -> x.swap(1, 1, -1));
        refused("12: of another TOOL", Kit.STATE, x -> x.swap(0, 1, 8));
        refused("12: of this TOOL", Kit.STATE, x -> x.swap(0, 1, 1));
        refused("12: none, where none was", Kit.STATE, x -> x.swap(HEADLESS, 1, -1));
    }

    private void askedOfOne() {
        for (int n : NO_TOOL) {
            refused("20: laundered(" + n + ", false)", Kit.INDEX, x -> x.laundered(n, false));
            refused("20: laundered(" + n + ", true)", Kit.INDEX, x -> x.laundered(n, true));
            refused("21: guard(" + n + ")", Kit.INDEX, x -> x.guard(n));
            refused("22: word(" + n + ")", Kit.INDEX, x -> x.word(n));
            refused("33: jury(3, " + n + ")", Kit.INDEX, x -> x.jury(3, n));
        }
        for (int n : NO_PART) {
            refused("25: with(" + n + ")", Kit.INDEX, x -> x.with(n));
            refused("26: strokes(" + n + ", false)", Kit.INDEX, x -> x.strokes(n, false));
            refused("26: strokes(" + n + ", true)", Kit.INDEX, x -> x.strokes(n, true));
            refused("30: clock(" + n + ", 1, false)", Kit.INDEX, x -> x.clock(n, 1, false));
            refused("44: led(" + n + ")", Kit.INDEX, x -> x.led(n));
        }
        refused("30: clock of a handle", Kit.ARGUMENT, x -> x.clock(0, 1, false));
        refused("30: clock of a joint", Kit.ARGUMENT, x -> x.clock(2, 1, true));
        for (int grade : beside(0, 9)) {
            refused("30: clock, GRADE " + grade, Kit.ARGUMENT, x -> x.clock(1, grade, true));
        }
    }

    private void askedOfTwo() {
        for (int n : NO_TOOL) {
            refused("24: exchange(" + n + ", 0, true)", Kit.INDEX, x -> x.exchange(n, 0, true));
            refused("24: exchange(0, " + n + ", false)", Kit.INDEX, x -> x.exchange(0, n, false));
            refused("29: joint(" + n + ", 0)", Kit.INDEX, x -> x.joint(n, 0));
            refused("29: joint(0, " + n + ")", Kit.INDEX, x -> x.joint(0, n));
            refused("36: pairs(0, " + n + ")", Kit.INDEX, x -> x.pairs(0, n));
        }
        for (int n = 0; n < TOOLS; n++) {
            int tool = n;
            refused("24: exchange(" + n + ", " + n + ")", Kit.ARGUMENT, x -> x.exchange(tool, tool, false));
            refused("29: joint(" + n + ", " + n + ")", Kit.ARGUMENT, x -> x.joint(tool, tool));
        }
        for (int n : NO_MASTER) {
            refused("34: alibi(" + n + ", 0)", Kit.INDEX, x -> x.alibi(n, 0));
            refused("36: pairs(" + n + ", 0)", Kit.INDEX, x -> x.pairs(n, 0));
        }
    }

    private void askedByNumbers() {
        for (int n : beside(0, 9)) {
            refused("18: culprits, EDGE " + n, Kit.ARGUMENT, x -> x.culprits(n, 0, 0));
            refused("18: culprits, GRADE " + n, Kit.ARGUMENT, x -> x.culprits(0, n, 0));
            refused("41: sure(" + n + ")", Kit.ARGUMENT, x -> x.sure(n));
        }
        for (int day : beside(0, TODAY)) {
            refused("18: culprits, DAY " + day, Kit.ARGUMENT, x -> x.culprits(3, 2, day));
        }
        for (int n : beside(0, 60)) {
            refused("37: trial(" + n + ")", Kit.ARGUMENT, x -> x.trial(n));
            refused("38: span(" + n + ", false)", Kit.ARGUMENT, x -> x.span(n, false));
            refused("38: span(" + n + ", true)", Kit.ARGUMENT, x -> x.span(n, true));
        }
        refused("27: harmed(-1, 5)", Kit.ARGUMENT, x -> x.harmed(-1, 5));
        refused("27: harmed(MIN, MAX)", Kit.ARGUMENT, x -> x.harmed(MIN, MAX));
        refused("27: harmed(1, 0)", Kit.ARGUMENT, x -> x.harmed(1, 0));
        refused("27: harmed(0, -1)", Kit.ARGUMENT, x -> x.harmed(0, -1));
        refused("27: harmed(MAX, MIN)", Kit.ARGUMENT, x -> x.harmed(MAX, MIN));
        refused("34: alibi(0, -1)", Kit.ARGUMENT, x -> x.alibi(0, -1));
        refused("34: alibi(0, MIN)", Kit.ARGUMENT, x -> x.alibi(0, MIN));
    }

    /** "Of several exceptions the one told first is thrown". */
    private void severalExceptions() {
        refused("7: part(9, 9)", Kit.INDEX, x -> x.part(PARTS, 9));
        refused("8: tool(4, 6)", Kit.INDEX, x -> x.tool(TOOLS, 6));
        refused("10: rule(9, 4)", Kit.INDEX, x -> x.rule(PARTS, 4));
        refused("42: truth(2, 7)", Kit.INDEX, x -> x.truth(DEEDS, 7));
        refused("11: no TOOL, HARM 0", Kit.INDEX, x -> x.deed(TOOLS, 0, 0, 0));
        refused("11: no head, no MASTER", Kit.INDEX, x -> x.deed(HEADLESS, MASTERS, 1, 0));
        refused("11: no MASTER, HARD 10", Kit.INDEX, x -> x.deed(0, MASTERS, 1, 10));
        refused("11: no head, HARM 0", Kit.ARGUMENT, x -> x.deed(HEADLESS, 0, 0, 0));
        refused("11: no head, HARD 10", Kit.ARGUMENT, x -> x.deed(HEADLESS, 0, 1, 10));
        refused("39: no MASTER, HARM 0", Kit.INDEX, x -> x.after(0, MASTERS, 0, 0));
        refused("39: no head, HARM 1000", Kit.ARGUMENT, x -> x.after(HEADLESS, 0, 1000, 0));
        refused("40: no MASTER, HARD -1", Kit.INDEX, x -> x.worst(HEADLESS, MASTERS, -1));
        refused("40: no head, HARD 10", Kit.ARGUMENT, x -> x.worst(HEADLESS, 0, 10));
        refused("12: no TOOL, another SORT", Kit.INDEX, x -> x.swap(TOOLS, 0, 5));
        refused("12: no PART, NAILED", Kit.INDEX, x -> x.swap(1, 1, PARTS));
        refused("12: no SORT, not SPARE", Kit.INDEX, x -> x.swap(0, 3, 8));
        refused("12: another SORT, NAILED", Kit.ARGUMENT, x -> x.swap(1, 1, 0));
        refused("12: another SORT, not SPARE", Kit.ARGUMENT, x -> x.swap(0, 0, 8));
        refused("13: no TOOL, no days", Kit.INDEX, x -> x.serve(TOOLS, 0));
        refused("24: both are one that is none", Kit.INDEX, x -> x.exchange(TOOLS, TOOLS, true));
        refused("29: both are one that is none", Kit.INDEX, x -> x.joint(-1, -1));
        refused("30: no PART, GRADE 10", Kit.INDEX, x -> x.clock(PARTS, 10, true));
        refused("34: no MASTER, DAY -1", Kit.INDEX, x -> x.alibi(MASTERS, -1));
    }

    private void askingChangesNothing() {
        asked("6: fault()", x -> x.fault());
        asked("7: part(1, 8)", x -> x.part(1, 8));
        asked("8: tool(0, 5)", x -> x.tool(0, 5));
        asked("9: master(0, true)", x -> x.master(0, true));
        asked("10: rule(1, 2)", x -> x.rule(1, 2));
        asked("17: guilty()", x -> x.guilty());
        asked("18: culprits(3, 1, 0)", x -> x.culprits(3, 1, 0));
        asked("19: ask(true)", x -> x.ask(true));
        asked("23: clean()", x -> x.clean());
        asked("27: harmed(0, 9)", x -> x.harmed(0, 9));
        asked("28: cell(0)", x -> x.cell(0));
        asked("30: clock(1, 1, true)", x -> x.clock(1, 1, true));
        asked("32: heir()", x -> x.heir());
        asked("33: jury(7, 0)", x -> x.jury(7, 0));
        asked("34: alibi(0, 0)", x -> x.alibi(0, 0));
        asked("35: worstMaster()", x -> x.worstMaster());
        asked("36: pairs(0, 0)", x -> x.pairs(0, 0));
        asked("37: trial(60)", x -> x.trial(60));
        asked("38: span(60, true)", x -> x.span(60, true));
        asked("39: after(0, 0, 999, 9)", x -> x.after(0, 0, 999, 9));
        asked("40: worst(3, 0, 9)", x -> x.worst(3, 0, 9));
        asked("41: sure(3)", x -> x.sure(3));
        asked("42: truth(1, 6)", x -> x.truth(1, 6));
        asked("43: log(0, 4)", x -> x.log(0, 4));
        asked("43: log(99, 0)", x -> x.log(99, 0));
        asked("49: count(15)", x -> x.count(15));
        asked("3: end(-1)", x -> x.end(-1));
        asked("3: end(25)", x -> x.end(25));
        for (int n = 0; n < 2; n++) {
            int tool = n;
            asked("20: laundered(" + n + ", true)", x -> x.laundered(tool, true));
            asked("21: guard(" + n + ")", x -> x.guard(tool));
            asked("22: word(" + n + ")", x -> x.word(tool));
            asked("24: exchange(" + n + ", 3)", x -> x.exchange(tool, 3, true));
            asked("29: joint(" + n + ", 3)", x -> x.joint(tool, 3));
            asked("25: with(" + n + ")", x -> x.with(tool));
            asked("26: strokes(" + n + ", true)", x -> x.strokes(tool, true));
            asked("44: led(" + n + ")", x -> x.led(tool));
        }
    }

    /** In an empty shop there is no number 0 either. */
    private void emptyShop() {
        List<Function<ToolCourt, Object>> calls = List.of(x -> x.part(0, 0), x -> x.tool(0, 0), x -> x.master(0, false),
                x -> x.rule(0, 0), x -> x.deed(0, 0, 1, 0), x -> x.swap(0, 0, -1), x -> x.serve(0, 1), x -> x.grind(0),
                x -> x.nail(0, true), x -> x.laundered(0, false), x -> x.guard(0), x -> x.word(0), x -> x.exchange(0, 1, true),
                x -> x.with(0), x -> x.strokes(0, true), x -> x.joint(0, 1), x -> x.clock(0, 0, true), x -> x.jury(0, 0),
                x -> x.alibi(0, 0), x -> x.pairs(0, 0), x -> x.after(0, 0, 1, 0), x -> x.worst(0, 0, 0), x -> x.truth(0, 0),
                x -> x.led(0));
        for (int i = 0; i < calls.size(); i++) {
            refused("1: call " + i + " on an empty shop", Kit.INDEX, calls.get(i));
        }
        refused("18: DAY 1 of an empty shop", Kit.ARGUMENT, x -> x.culprits(0, 0, 1));
        refused("43: log(0, 5) of an empty shop", Kit.NO_ELEMENT, x -> x.log(0, 5));
        asked("46: undo() of an empty shop", x -> x.undo());
        asked("48: back() of an empty shop", x -> x.back());
    }

    private void sixtyDeedsAreDone() {
        refused("11: a 61st DEED", Kit.UNSUPPORTED, x -> x.deed(0, 0, 1, 0));
        refused("11: a 61st DEED, no TOOL", Kit.INDEX, x -> x.deed(2, 0, 1, 0));
        refused("11: a 61st DEED, HARM 1000", Kit.ARGUMENT, x -> x.deed(0, 0, 1000, 0));
        refused("11: a 61st DEED, no head", Kit.STATE, x -> x.deed(1, 0, 1, 0));
        refused("42: truth(60, 0)", Kit.INDEX, x -> x.truth(60, 0));
        asked("42: truth(59, 0)", x -> x.truth(59, 0));
        asked("39: after() though none can be done", x -> x.after(0, 0, 1, 0));
    }

    private static void tapeIsUsedUp() {
        wrongText(BUSY, "shop", "part handle edge 1 wear 1;tool 5 9;master 1;nail 9;damp 9;need 1 0;limit 3;x", Kit.ARGUMENT, 75);
        wrongText(BUSY, "shop", "part head edge 1 wear 1;", Kit.ARGUMENT, 24);
        wrongText(BUSY, "law", "answer 1;plead 2 if head;heir 3;blunt 100", Kit.ARGUMENT, 38);
        wrongText(BUSY, "law", "heir 3 if (head", Kit.ARGUMENT, 15);
        wrongText(TWELVE_TEXTS, "shop", "limit 99", Kit.UNSUPPORTED, -1);
        wrongText(TWELVE_TEXTS, "shop", "", Kit.UNSUPPORTED, -1);
        wrongText(TWELVE_TEXTS, "shop", "limit 99;", Kit.ARGUMENT, 9);
        wrongText(BUSY, "together", "\0\u0009", Kit.ARGUMENT, BUSY.play().fault());
        wrongText(BUSY, "together", "\u00ff", Kit.ARGUMENT, BUSY.play().fault());
        wrongText(EMPTY, "together", "\0", Kit.ARGUMENT, -1);
    }

    /** The TAPE is empty then, fault() is that; all else is as it was. */
    private static void wrongText(Scene scene, String call, String text, String exception, int fault) {
        Scene fed = scene.then(x -> Kit.feed(x, text));
        ToolCourt x = fed.play();
        Kit.refused(call + " of '" + text + "'", exception, made(x, call));
        Kit.due(call + " of '" + text + "': fault()", x.fault(), fault);
        String due = scene.then(court -> court.end(0)).whole();
        String was = "fault=" + scene.play().fault() + " ";
        String got = fed.then(court -> Kit.answer(made(court, call))).whole();
        Kit.due(call + " of '" + text + "' changes nothing else", got, due.replace(was, "fault=" + fault + " "));
    }

    private static Callable<Integer> made(ToolCourt x, String call) {
        return call.equals("shop") ? x::shop : call.equals("law") ? x::law : () -> x.together(false);
    }
}
