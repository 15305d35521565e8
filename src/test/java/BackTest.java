import java.util.ArrayList;
import java.util.List;
import java.util.function.Consumer;

/** Promises 46 to 48: ACTS undone, and THE IMAGE. */
public final class BackTest {
    private static final Scene COURT = Scene.of(
            x -> Kit.shop(x, Kit.SHOP),
            x -> Kit.shop(x, "damp 60;need 3 0;need 9 1"),
            x -> Kit.law(x, "answer 50 if head;answer 30 if handle;heir 40;blunt 3 if joint or handle"),
            x -> x.deed(0, 0, 100, 5),
            x -> Kit.shop(x, ""));

    public static void main(String[] args) {
        eachAct();
        tenAreRemembered();
        whatUndoLeavesAlone();
        seedGoesBack();
        textsForget();
        image();
        imageOfAll();
        imageLeavesAlone();
        Kit.close();
    }

    private static Consumer<ToolCourt> act(String name) {
        return switch (name) {
            case "deed" -> x -> x.deed(1, 1, 50, 3);
            case "swap" -> x -> x.swap(0, 0, 6);
            case "serve" -> x -> x.serve(0, 3);
            case "grind" -> x -> x.grind(1);
            case "nail" -> x -> x.nail(1, true);
            case "free" -> x -> x.nail(1, false);
            default -> x -> x.days(45);
        };
    }

    private static void eachAct() {
        String ahead = COURT.portrait();
        for (String name : List.of("deed", "swap", "serve", "grind", "nail", "free", "days")) {
            Scene acted = COURT.then(act(name));
            Kit.due("46: " + name + " can be UNDONE", acted.play().count(13), 1);
            Kit.due("46: " + name + " changes something", acted.portrait().equals(ahead), name.equals("free"));
            Kit.due("46: " + name + " is UNDONE", acted.play().undo(), true);
            Scene undone = acted.then(ToolCourt::undo);
            Kit.due("46: all is as ahead of " + name, undone.portrait(), ahead);
            Kit.due("46: no more", undone.play().undo(), false);
            Kit.due("46: nothing happened", undone.then(ToolCourt::undo).portrait(), ahead);
        }
    }

    private static void tenAreRemembered() {
        String[] acts = {"deed", "swap", "serve", "days", "nail", "deed", "grind", "days", "deed", "free", "serve", "days", "deed"};
        List<String> seen = new ArrayList<>();
        Scene scene = COURT;
        for (String name : acts) {
            seen.add(scene.portrait());
            scene = scene.then(act(name));
            Kit.due("46: remembered", scene.play().count(13), Math.min(10, seen.size()));
        }
        for (int i = 0; i < 10; i++) {
            Kit.due("46: undo " + i, scene.play().undo(), true);
            scene = scene.then(ToolCourt::undo);
            Kit.due("46: as it was ahead of ACT " + (acts.length - 1 - i), scene.portrait(), seen.get(acts.length - 1 - i));
            Kit.due("46: are left", scene.play().count(13), 9 - i);
        }
        Kit.due("46: ten are gone", scene.play().undo(), false);
        Kit.due("46: nothing happens then", scene.then(ToolCourt::undo).portrait(), seen.get(3));
        scene = scene.then(act("nail"));
        Kit.due("46: a new ACT", scene.play().count(13), 1);
        Kit.due("46: it can be UNDONE", scene.then(ToolCourt::undo).portrait(), seen.get(3));
    }

    private static void whatUndoLeavesAlone() {
        ToolCourt x = COURT.play();
        x.deed(0, 0, 10, 0);
        Kit.shopFault(x, "limit x");
        x.feed(1, 2, 3, 4, 5);
        x.image();
        int guilt = x.count(10);
        x.undo();
        Kit.due("46: fault() stays", x.fault(), 6);
        Kit.due("46: the TAPE stays", x.end(20), true);
        Kit.due("46: GUILT went back", x.count(10) < guilt, true);
        Kit.due("46: THE IMAGE stays", x.back(), true);
        Kit.due("46: with its GUILT", x.count(10), guilt);
        Kit.refused("46: a refused call is no ACT", Kit.ARGUMENT, () -> x.days(0));
        Kit.due("46: none", x.count(13), 0);
    }

    /** "all is as ahead of it": SEED told behind an ACT goes back with it. */
    private static void seedGoesBack() {
        ToolCourt x = COURT.play();
        x.seed(5);
        x.nail(0, true);
        x.seed(6);
        x.undo();
        Kit.due("46: SEED is as it was", x.seed(1), 5);
        x.seed(7);
        x.image();
        x.seed(8);
        x.back();
        Kit.due("48: SEED is as it was", x.seed(1), 7);
    }

    private static void textsForget() {
        ToolCourt x = COURT.play();
        x.days(1);
        Kit.shop(x, "");
        Kit.due("46: a text of THE SHOP", x.undo(), false);
        x.days(1);
        Kit.law(x, "");
        Kit.due("46: a text of THE LAW", x.undo(), false);
        x.days(1);
        Kit.lawFault(x, "x");
        Kit.shopFault(x, "x");
        x.together(true);
        x.image();
        Kit.due("46: a wrong text, the TAPE, an image do not", x.count(13), 1);
        x.back();
        Kit.due("46: going back does", x.count(13) + " " + x.undo(), "0 false");
    }

    private static void image() {
        Scene acted = COURT.then(x -> x.deed(0, 0, 10, 0));
        Kit.due("48: none was kept", acted.play().back(), false);
        Kit.due("48: nothing happened", acted.then(ToolCourt::back).whole(), acted.whole());
        String kept = acted.portrait();
        Scene imaged = acted.then(ToolCourt::image);
        Kit.due("47: nothing else happens", imaged.portrait(), kept);
        Kit.due("47: the ACT is still remembered", imaged.play().count(13), 1);
        Scene away = imaged.then(x -> x.days(40)).then(x -> x.swap(0, 1, 5));
        Kit.due("48: gone back", away.play().back(), true);
        Scene gone = away.then(ToolCourt::back);
        Kit.due("48: all is as it was", gone.portrait(), kept);
        Kit.due("48: none are remembered", gone.play().count(13), 0);
        Scene again = gone.then(x -> x.days(2));
        Kit.due("48: once more", again.play().back(), true);
        Kit.due("48: all is as it was again", again.then(ToolCourt::back).portrait(), kept);
        Scene later = again.then(ToolCourt::image).then(x -> x.deed(1, 0, 9, 9)).then(ToolCourt::back);
        Kit.due("47: the later one is in its place", later.portrait(), again.portrait());
    }

    private static void imageOfAll() {
        Scene empty = Scene.of(ToolCourt::image);
        Scene back = empty.then(x -> Kit.shop(x, Kit.SHOP)).then(x -> Kit.shop(x, "damp 9;need 4 0;nail 1"))
                .then(x -> Kit.law(x, "answer 7")).then(x -> x.deed(0, 0, 100, 0)).then(x -> x.days(3)).then(x -> x.seed(99))
                .then(ToolCourt::back);
        Kit.due("47: texts, THE LAW, SEED, all", back.portrait(), empty.portrait());
        ToolCourt x = back.play();
        Kit.due("49: no LAW", x.count(4), -1);
        Kit.due("4: the first text again", Kit.shop(x, Kit.SHOP), 1);
        Kit.due("10: the LAW without a text", x.rule(1, 0), 100);
        Scene full = COURT.then(ToolCourt::image).then(y -> y.swap(0, 2, -1)).then(y -> Kit.shop(y, "tool 2;limit 3"))
                .then(y -> Kit.law(y, "")).then(ToolCourt::back);
        Kit.due("48: TOOLS that came later are gone", full.portrait(), COURT.portrait());
    }

    private static void imageLeavesAlone() {
        ToolCourt x = COURT.play();
        x.image();
        Kit.shopFault(x, "limit x");
        x.feed(1, 2, 3, 4, 5);
        x.back();
        Kit.due("48: fault() stays", x.fault(), 6);
        Kit.due("48: the TAPE stays", x.end(20), true);
    }
}
