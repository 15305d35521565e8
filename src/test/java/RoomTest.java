import com.sun.management.ThreadMXBean;
import java.lang.management.ManagementFactory;
import java.util.function.Consumer;

/**
 * LANGUAGE.md's rule 12: what a run makes is kept small. A run of 512 of the dearest calls of each kind must stay far
 * below its room (7.3 million fields and elements); fifteen are made, as feeding a text takes up to twenty calls more.
 */
public final class RoomTest {
    private static final int CALLS = 15;
    private static final long BYTES_OF_A_CALL = 8_000;
    /** A court with all that it can remember: thirteen times all rows, and what the texts are read with. */
    private static final long BYTES_OF_A_COURT = 120_000;

    private static final String LONG_LAW = "answer 1 if " + "1+".repeat(190) + "1<2";

    private static ThreadMXBean threads;

    public static void main(String[] args) {
        threads = (ThreadMXBean) ManagementFactory.getThreadMXBean();
        if (threads.isThreadAllocatedMemorySupported()) {
            asking();
            acts();
            texts();
            wholeCourt();
        }
        Kit.close();
    }

    private static long bytes(Runnable calls) {
        long ahead = threads.getCurrentThreadAllocatedBytes();
        calls.run();
        return threads.getCurrentThreadAllocatedBytes() - ahead;
    }

    /** So many calls, the first of which is not counted: it may load classes. */
    private static void room(String name, ToolCourt x, Consumer<ToolCourt> call) {
        call.accept(x);
        long used = bytes(() -> {
            for (int i = 0; i < CALLS; i++) {
                call.accept(x);
            }
        });
        Kit.due("rule 12: " + name + " uses little room (" + used + " bytes)", used / CALLS < BYTES_OF_A_CALL, true);
    }

    private static ToolCourt busy() {
        ToolCourt x = Kit.court(Kit.SHOP, "damp 50;need 1 0;need 2 1");
        Kit.law(x, "answer 90 if head and harm > 0;answer 30;heir 50;blunt 1");
        for (int i = 0; i < 30; i++) {
            x.deed(i % 2, i % 3, 10, 1);
        }
        return x;
    }

    private static void asking() {
        room("laundered", busy(), x -> x.laundered(0, true));
        room("guard", busy(), x -> x.guard(0));
        room("word", busy(), x -> x.word(0));
        room("exchange", busy(), x -> x.exchange(0, 1, true));
        room("cell", busy(), x -> x.cell(-1));
        room("span", busy(), x -> x.span(60, true));
        room("worst", busy(), x -> x.worst(1, 0, 9));
        room("strokes", busy(), x -> x.strokes(1, true));
        room("culprits", busy(), x -> x.culprits(3, 2, 0));
        room("part", busy(), x -> x.part(1, 8));
    }

    private static void acts() {
        room("days", busy(), x -> x.days(60));
        room("serve", busy(), x -> x.serve(0, 1));
        room("nail", busy(), x -> x.nail(0, true));
        room("swap and undo", busy(), x -> {
            x.swap(0, 2, -1);
            x.undo();
        });
        room("deed and undo", busy(), x -> {
            x.deed(0, 0, 1, 0);
            x.undo();
        });
        room("image and back", busy(), x -> {
            x.image();
            x.back();
        });
    }

    private static void texts() {
        room("a long law", busy(), x -> Kit.law(x, LONG_LAW));
        room("a text of the shop", new ToolCourt(), x -> {
            x.back();
            x.image();
            Kit.shop(x, "part head edge 1 wear 1;tool 0;master 1;need 3 0;limit 50");
            x.back();
        });
    }

    private static void wholeCourt() {
        busy();
        long used = bytes(() -> {
            ToolCourt x = new ToolCourt();
            x.image();
            for (int i = 0; i < 12; i++) {
                x.days(1);
            }
        });
        Kit.due("rule 12: a whole court (" + used + " bytes)", used < BYTES_OF_A_COURT, true);
    }
}
