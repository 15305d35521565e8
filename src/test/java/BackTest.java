import java.util.ArrayList;
import java.util.List;

/** Promises 46 to 48: ACTS undone, and THE IMAGE. */
public final class BackTest {
    public static void main(String[] args) {
        eachAct();
        tenAreRemembered();
        whatUndoLeavesAlone();
        textsForget();
        image();
        imageOfAll();
        Kit.close();
    }

    private static ToolCourt court() {
        ToolCourt x = Kit.court(Kit.SHOP, "damp 60;need 3 0;need 9 1");
        Kit.law(x, "answer 50 if head;answer 30 if handle;heir 40;blunt 3 if joint or handle");
        x.deed(0, 0, 100, 5);
        Kit.shop(x, "");
        return x;
    }

    private static void eachAct() {
        List<String> calls = List.of("deed", "swap", "serve", "grind", "nail", "free", "days");
        for (String call : calls) {
            ToolCourt x = court();
            String ahead = Kit.portrait(x);
            act(x, call);
            Kit.due("46: " + call + " can be UNDONE", x.count(13), 1);
            Kit.due("46: " + call + " is UNDONE", x.undo(), true);
            Kit.due("46: all is as ahead of " + call, Kit.portrait(x), ahead);
            Kit.due("46: no more", x.undo(), false);
            Kit.due("46: nothing happened", Kit.portrait(x), ahead);
        }
    }

    private static void act(ToolCourt x, String call) {
        switch (call) {
            case "deed" -> x.deed(1, 1, 50, 3);
            case "swap" -> x.swap(0, 0, 6);
            case "serve" -> x.serve(0, 3);
            case "grind" -> x.grind(1);
            case "nail" -> x.nail(1, true);
            case "free" -> x.nail(1, false);
            default -> x.days(45);
        }
    }

    private static void tenAreRemembered() {
        ToolCourt x = court();
        List<String> seen = new ArrayList<>();
        String[] acts = {"deed", "swap", "serve", "days", "nail", "deed", "grind", "days", "deed", "free", "serve", "days", "deed"};
        for (String act : acts) {
            seen.add(Kit.portrait(x));
            act(x, act);
            Kit.due("46: remembered", x.count(13), Math.min(10, seen.size()));
        }
        for (int i = 0; i < 10; i++) {
            Kit.due("46: undo " + i, x.undo(), true);
            Kit.due("46: as it was ahead of ACT " + (acts.length - 1 - i), Kit.portrait(x), seen.get(acts.length - 1 - i));
            Kit.due("46: are left", x.count(13), 9 - i);
        }
        Kit.due("46: ten are gone", x.undo(), false);
        act(x, "nail");
        Kit.due("46: a new ACT", x.count(13), 1);
        Kit.due("46: it can be UNDONE", x.undo(), true);
    }

    private static void whatUndoLeavesAlone() {
        ToolCourt x = court();
        x.deed(0, 0, 10, 0);
        Kit.feed(x, "limit x");
        Kit.answer(x::shop);
        x.feed(1, 2, 3, 4, 5);
        x.image();
        int guilt = x.count(10);
        x.undo();
        Kit.due("46: fault() stays", x.fault(), 6);
        Kit.due("46: the TAPE stays", x.end(20), true);
        Kit.due("46: GUILT went back", x.count(10) < guilt, true);
        Kit.due("46: THE IMAGE stays", x.back(), true);
        Kit.due("46: with its GUILT", x.count(10), guilt);
        // SEED told behind an ACT goes back with it.
        ToolCourt y = court();
        y.seed(5);
        y.nail(0, true);
        y.seed(6);
        y.undo();
        Kit.due("46: SEED is as it was", y.seed(1), 5);
        Kit.refused("46: a refused call is no ACT", Kit.ARGUMENT, () -> y.days(0));
        Kit.due("46: none", y.count(13), 0);
    }

    private static void textsForget() {
        ToolCourt x = court();
        x.days(1);
        Kit.shop(x, "");
        Kit.due("46: a text of THE SHOP", x.undo(), false);
        x.days(1);
        Kit.law(x, "");
        Kit.due("46: a text of THE LAW", x.undo(), false);
        x.days(1);
        Kit.feed(x, "x");
        Kit.answer(x::law);
        x.together(true);
        x.image();
        Kit.due("46: a wrong text, the TAPE, an image do not", x.count(13), 1);
        x.back();
        Kit.due("46: going back does", x.count(13), 0);
    }

    private static void image() {
        ToolCourt x = court();
        x.deed(0, 0, 10, 0);
        Kit.due("48: none was kept", x.back(), false);
        Kit.due("48: nothing happened", x.count(13), 1);
        x.image();
        String kept = Kit.portrait(x);
        x.days(40);
        x.swap(0, 1, 5);
        Kit.due("48: gone back", x.back(), true);
        Kit.due("48: all is as it was", Kit.portrait(x), kept);
        Kit.due("48: none are remembered", x.count(13), 0);
        x.days(2);
        Kit.due("48: once more", x.back(), true);
        Kit.due("48: all is as it was again", Kit.portrait(x), kept);
        x.days(2);
        x.image();
        String later = Kit.portrait(x);
        x.days(2);
        x.back();
        Kit.due("47: the later one is in its place", Kit.portrait(x), later);
        Kit.feed(x, "limit x");
        Kit.answer(x::shop);
        x.feed(1, 2, 3, 4, 5);
        x.back();
        Kit.due("48: fault() stays", x.fault(), 6);
        Kit.due("48: the TAPE stays", x.end(20), true);
    }

    private static void imageOfAll() {
        ToolCourt x = new ToolCourt();
        x.image();
        String empty = Kit.portrait(x);
        Kit.shop(x, Kit.SHOP);
        Kit.shop(x, "damp 9;need 4 0;nail 1");
        Kit.law(x, "answer 7");
        x.deed(0, 0, 100, 0);
        x.days(3);
        x.seed(99);
        x.back();
        Kit.due("47: texts, THE LAW, SEED, all", Kit.portrait(x), empty);
        Kit.due("49: no LAW", x.count(4), -1);
        Kit.due("4: the first text again", Kit.shop(x, Kit.SHOP), 1);
        Kit.due("10: the LAW without a text", x.rule(1, 0), 100);
    }
}
