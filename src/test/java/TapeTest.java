/** Promises 1 to 3: a new object, feed, end. */
public final class TapeTest {
    public static void main(String[] args) {
        newObject();
        feed();
        end();
        Kit.close();
    }

    private static void newObject() {
        ToolCourt x = new ToolCourt();
        int[] due = {0, 0, 0, 0, -1, 0, 0, 0, 0, 0, 0, 0, 0, 0, 0};
        for (int what = 0; what < due.length; what++) {
            Kit.due("1: count(" + what + ") of a new object", x.count(what), due[what]);
        }
        Kit.due("1: fault()", x.fault(), -1);
        Kit.due("1: guilty()", x.guilty(), 0);
        Kit.due("1: ask(false)", x.ask(false), 0);
        Kit.due("1: ask(true)", x.ask(true), 0);
        Kit.due("1: clean()", x.clean(), 0);
        Kit.due("1: cell(NONE)", x.cell(-1), 0);
        Kit.due("1: cell(0)", x.cell(0), -1);
        Kit.due("1: heir()", x.heir(), -1);
        Kit.due("1: worstMaster()", x.worstMaster(), -1);
        Kit.due("1: sure(0)", x.sure(0), 0);
        Kit.due("1: trial(60)", x.trial(60), 0);
        Kit.due("1: culprits(0, 0, 0)", x.culprits(0, 0, 0), 0);
        Kit.due("1: undo()", x.undo(), false);
        Kit.due("1: back()", x.back(), false);
        Kit.due("1: log(0, 0)", x.log(0, 0), -99);
        Kit.due("1: seed(5)", x.seed(5), 1);
        Kit.due("1: the TAPE is empty", x.end(1), false);
        Kit.due("1: together(false)", x.together(false), 0);
    }

    private static void feed() {
        ToolCourt x = new ToolCourt();
        for (int n = 20; n <= 400; n += 20) {
            Kit.due("2: feed to " + n, x.feed(0, 0, 0, 0, 0), n);
        }
        Kit.due("2: feed beyond 400", x.feed(0, 0, 0, 0, 0), -1);
        Kit.due("2: it kept 400", x.end(400), true);
        x.end(381);
        Kit.due("2: feed to 401", x.feed(0, 0, 0, 0, 0), -1);
        Kit.due("2: none came", x.end(382), false);
        x.end(380);
        Kit.due("2: feed to 400", x.feed(0, 0, 0, 0, 0), 400);
        // The highest byte of each number comes first: "damp 12;limit 3456" and two bytes more.
        ToolCourt y = new ToolCourt();
        y.feed(0x64616d70, 0x2031323b, 0x6c696d69, 0x74203334, 0x35360000);
        y.end(18);
        Kit.due("2: the bytes make a text", y.shop(), 1);
        Kit.due("2: DAMP", y.count(8), 12);
        Kit.due("2: LIMIT", y.count(7), 3456);
        // A byte above 127 is no sign that can stand anywhere.
        y.feed(0x20ff0000, 0, 0, 0, 0);
        Kit.refused("2: a high byte", Kit.ARGUMENT, y::shop);
        Kit.due("2: its place", y.fault(), 1);
        // Two feeds stand behind one another.
        y.feed(0x64616d70, 0x20202020, 0x20202020, 0x20202020, 0x20202020);
        y.feed(0x20202020, 0x20202020, 0x20202020, 0x20202020, 0x20202037);
        Kit.due("2: two feeds make one text", y.shop(), 2);
        Kit.due("2: DAMP then", y.count(8), 7);
    }

    private static void end() {
        ToolCourt x = new ToolCourt();
        Kit.due("3: end(0) of nothing", x.end(0), true);
        Kit.due("3: end(1) of nothing", x.end(1), false);
        x.feed(0, 0, 0, 0, 0);
        Kit.due("3: end(-1)", x.end(-1), false);
        Kit.due("3: end(21)", x.end(21), false);
        Kit.due("3: end(20)", x.end(20), true);
        Kit.due("3: end(7)", x.end(7), true);
        Kit.due("3: end(8)", x.end(8), false);
        Kit.due("3: feed behind 7", x.feed(0, 0, 0, 0, 0), 27);
        Kit.due("3: end(MIN)", x.end(Integer.MIN_VALUE), false);
        Kit.due("3: end(MAX)", x.end(Integer.MAX_VALUE), false);
        Kit.due("3: end(27)", x.end(27), true);
    }
}
