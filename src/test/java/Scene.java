import java.util.ArrayList;
import java.util.List;
import java.util.function.Consumer;
import java.util.function.ToIntFunction;

/**
 * Calls that lead a new court somewhere. They are played again and again, so that all that there is can be asked
 * without using one court for more than its 512 calls.
 */
final class Scene {
    private static final int QUESTIONS_OF_ONE_COURT = 150;

    private final List<Consumer<ToolCourt>> calls;

    private Scene(List<Consumer<ToolCourt>> calls) {
        this.calls = calls;
    }

    @SafeVarargs
    static Scene of(Consumer<ToolCourt>... calls) {
        List<Consumer<ToolCourt>> all = new ArrayList<>();
        for (Consumer<ToolCourt> call : calls) {
            all.add(call);
        }
        return new Scene(all);
    }

    /** These calls and one more; what it throws is left alone. */
    Scene then(Consumer<ToolCourt> call) {
        List<Consumer<ToolCourt>> more = new ArrayList<>(calls);
        more.add(x -> Kit.answer(() -> {
            call.accept(x);
            return null;
        }));
        return new Scene(more);
    }

    ToolCourt play() {
        ToolCourt x = new ToolCourt();
        calls.forEach(call -> call.accept(x));
        return x;
    }

    /** All that goes back with an ACT or THE IMAGE, in one text. */
    String portrait() {
        ToolCourt x = play();
        Questions all = new Questions();
        for (int what = 0; what <= 14; what++) {
            // How many ACTS are remembered is no part of what they bring back.
            if (what != 13) {
                all.add("count", ToolCourt::count, what);
            }
        }
        all.addRows("part", x.count(0), 9, ToolCourt::part);
        all.addRows("rule", x.count(0), 4, ToolCourt::rule);
        all.addRows("tool", x.count(1), 6, ToolCourt::tool);
        all.addRows("master", x.count(2), 2, (court, master, what) -> court.master(master, what == 1));
        all.addRows("truth", x.count(6), 7, ToolCourt::truth);
        all.addRows("log", x.count(12), 5, ToolCourt::log);
        all.addSheets(x);
        all.add("seed", ToolCourt::seed, 1);
        return all.answers(this);
    }

    /** All that there is: what goes back, what is remembered, THE IMAGE, the TAPE as a text of THE LAW, and fault(). */
    String whole() {
        ToolCourt x = play();
        StringBuilder all = new StringBuilder(portrait());
        all.append("fault=").append(x.fault()).append(" acts=").append(x.count(13)).append(" tape=").append(length(x));
        all.append("\nlaw: ").append(Kit.answer(play()::law)).append(then(ToolCourt::law).portrait());
        all.append("\nundo: ").append(play().undo()).append(then(ToolCourt::undo).portrait());
        return all.append("\nback: ").append(play().back()).append(then(ToolCourt::back).portrait()).toString();
    }

    /** How many bytes the TAPE has, which has room for twenty more. */
    private static int length(ToolCourt x) {
        return x.feed(0, 0, 0, 0, 0) - 20;
    }

    interface OfOne {
        int ask(ToolCourt x, int one);
    }

    interface OfTwo {
        int ask(ToolCourt x, int one, int other);
    }

    private static final class Questions {
        private final List<String> names = new ArrayList<>();
        private final List<ToIntFunction<ToolCourt>> asked = new ArrayList<>();

        void add(String name, OfOne question, int one) {
            names.add(name + "(" + one + ")");
            asked.add(x -> question.ask(x, one));
        }

        void addRows(String name, int rows, int kinds, OfTwo question) {
            for (int row = 0; row < rows; row++) {
                for (int what = 0; what < kinds; what++) {
                    int one = row;
                    int other = what;
                    names.add(name + "(" + one + ", " + other + ")");
                    asked.add(x -> question.ask(x, one, other));
                }
            }
        }

        /** The CULPRITS of each MARK that a head there is can have left, on each DAY of which a SHEET is kept, and today. */
        void addSheets(ToolCourt x) {
            boolean[] edges = new boolean[10];
            for (int part = 0; part < x.count(0); part++) {
                edges[x.part(part, 1)] |= x.part(part, 0) == 1;
            }
            int today = x.count(5);
            for (int day = today - x.count(14); day <= today; day++) {
                for (int mark = 0; mark < 100; mark++) {
                    if (edges[mark / 10]) {
                        int then = day;
                        add("culprits on " + day + " of ", (court, one) -> court.culprits(one / 10, one % 10, then), mark);
                    }
                }
            }
        }

        String answers(Scene scene) {
            StringBuilder all = new StringBuilder();
            ToolCourt x = null;
            for (int i = 0; i < asked.size(); i++) {
                x = i % QUESTIONS_OF_ONE_COURT == 0 ? scene.play() : x;
                all.append(names.get(i)).append('=').append(asked.get(i).applyAsInt(x)).append(' ');
            }
            return all.toString();
        }
    }
}
