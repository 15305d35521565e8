import java.lang.reflect.InvocationTargetException;
import java.lang.reflect.Method;
import java.lang.reflect.Modifier;
import java.nio.charset.StandardCharsets;
import java.util.ArrayList;
import java.util.Comparator;
import java.util.List;
import java.util.Random;

/** Long runs of calls, drawn from fixed seeds, on ToolCourt and on Model: every answer must be the same. */
public final class ModelTest {
    private static final int RUNS = 600;
    /** Nothing is promised about an object behind its 512th call. */
    private static final int MOST_CALLS = 512;

    private final Random random;
    private final ToolCourt court = new ToolCourt();
    private final Model model = new Model();
    private final List<String> made = new ArrayList<>();
    private final int mostHarm;
    private int calls;
    private boolean wrong;

    private ModelTest(int seed) {
        random = new Random(seed);
        mostHarm = new int[] {15, 40, 120, 999}[random.nextInt(4)];
    }

    public static void main(String[] args) throws Exception {
        int first = args.length > 0 ? Integer.parseInt(args[0]) : 1;
        int runs = args.length > 1 ? Integer.parseInt(args[1]) : RUNS;
        List<Method> methods = new ArrayList<>();
        for (Method method : ToolCourt.class.getDeclaredMethods()) {
            if (Modifier.isPublic(method.getModifiers())) {
                methods.add(method);
            }
        }
        methods.sort(Comparator.comparing(Method::getName));
        for (int seed = first; seed < first + runs; seed++) {
            ModelTest run = new ModelTest(seed);
            if (seed % 3 == 0) {
                run.playCrowded();
            } else {
                run.play(methods);
            }
            if (run.wrong) {
                System.out.println("run " + seed + ":");
                run.made.forEach(System.out::println);
                break;
            }
        }
        Kit.close();
    }

    private void play(List<Method> methods) throws Exception {
        text("shop", random.nextInt(8) == 0 ? shopText() : bigShop());
        text("shop", random.nextInt(8) == 0 ? shopText() : toolsText());
        if (random.nextBoolean()) {
            text("law", "answer " + (20 + random.nextInt(80)) + ";" + lawText());
        }
        while (calls < MOST_CALLS && !wrong) {
            int dice = random.nextInt(100);
            if (dice < 2) {
                text("shop", random.nextInt(3) == 0 ? spoiled(shopText()) : shopText());
            } else if (dice < 5) {
                text("law", random.nextInt(3) == 0 ? spoiled(lawText()) : lawText());
            } else if (dice < 6) {
                text("law", "heir " + random.nextInt(101) + ";answer 60 if head;answer " + random.nextInt(60) + ";" + lawText());
            } else if (dice < 9) {
                byte[] parts = new byte[random.nextInt(4)];
                for (int i = 0; i < parts.length; i++) {
                    parts[i] = (byte) random.nextInt(random.nextInt(10) == 0 ? 256 : 10);
                }
                feed(parts);
                call("together", random.nextBoolean());
            } else if (dice < 24) {
                call("deed", tool(), master(), harm(), random.nextInt(10));
            } else if (dice < 34) {
                int sort = random.nextInt(3);
                call("swap", tool(), sort, random.nextInt(4) == 0 ? -1 : spare(sort));
            } else if (dice < 36) {
                call("serve", tool(), 1 + random.nextInt(9));
            } else if (dice < 38) {
                call("exchange", tool(), tool(), random.nextBoolean());
                call("cell", below(3));
                call("cell", -1);
            } else if (dice < 41) {
                call("days", 1 + random.nextInt(random.nextInt(9) == 0 ? 60 : 3));
            } else {
                any(methods.get(random.nextInt(methods.size())));
            }
        }
    }

    /** A court where nearly all is there, so that few calls are refused and many ways are open. */
    private void playCrowded() throws Exception {
        crowd();
        while (calls < MOST_CALLS && !wrong) {
            for (int i = random.nextInt(12); i > 0; i--) {
                actOfCrowd();
            }
            if (random.nextInt(3) == 0) {
                text("shop", "limit " + Math.min(9999, limitOfCrowd()) + needsOfCrowd());
            }
            if (random.nextInt(4) == 0) {
                text("law", lawOfCrowd());
            }
            if (random.nextInt(4) == 0) {
                call("image");
            } else if (random.nextInt(9) == 0) {
                call("back");
            }
            askCrowd();
        }
    }

    /** Sixteen PARTS: the first twelve stand in four TOOLS, if none is left out, the others are SPARE. */
    private void crowd() throws Exception {
        String[] sorts = {"handle", "head", "joint"};
        StringBuilder text = new StringBuilder();
        for (int i = 0; i < 16; i++) {
            text.append(i == 0 || i == 14 ? "" : ";");
            text.append("part ").append(sorts[i % 3]).append(" edge ").append(random.nextInt(3));
            text.append(" wear ").append(random.nextInt(random.nextBoolean() ? 25 : 100));
            if (i == 13) {
                text("shop", text.toString());
                text.setLength(0);
            }
        }
        for (int i = 0; i < 4; i++) {
            text.append(";tool ").append(3 * i + 1);
            text.append(random.nextInt(9) == 0 ? "" : " " + 3 * i).append(random.nextInt(9) == 0 ? "" : " " + (3 * i + 2));
        }
        for (int i = 0; i < 4; i++) {
            text.append(";master ").append(random.nextInt(6));
        }
        text("shop", text + ";damp " + random.nextInt(101));
        text("law", lawOfCrowd());
    }

    private String lawOfCrowd() {
        StringBuilder text = new StringBuilder("answer " + random.nextInt(101));
        for (int i = random.nextInt(4); i > 0; i--) {
            text.append(";answer ").append(random.nextInt(60)).append(" if ").append(condition(0));
        }
        for (int i = random.nextInt(3); i > 0; i--) {
            text.append(";heir ").append(random.nextInt(60)).append(random.nextBoolean() ? "" : " if " + condition(0));
        }
        text.append(";plead ").append(random.nextInt(60)).append(" if ").append(condition(0));
        return text.append(";blunt ").append(random.nextInt(4)).toString();
    }

    /** A LIMIT that some TOOLS keep and others do not. */
    private int limitOfCrowd() {
        int one = model.tool(random.nextInt(model.count(1)), 3);
        int other = model.tool(random.nextInt(model.count(1)), 3);
        return random.nextInt(4) == 0 ? one : (one + other) / (1 + random.nextInt(4));
    }

    private String needsOfCrowd() {
        StringBuilder text = new StringBuilder();
        for (int i = random.nextInt(9); i > 0; i--) {
            text.append(";need ").append(random.nextInt(random.nextBoolean() ? 32 : 9)).append(' ').append(random.nextInt(4));
        }
        return text.toString();
    }

    private void actOfCrowd() throws Exception {
        int dice = random.nextInt(20);
        if (dice < 10) {
            call("deed", random.nextInt(4), random.nextInt(4), harm(), random.nextInt(10));
        } else if (dice < 14) {
            int sort = random.nextInt(3);
            call("swap", random.nextInt(4), sort, random.nextInt(9) == 0 ? -1 : spare(sort));
        } else if (dice < 15) {
            call("nail", random.nextInt(16), random.nextInt(3) > 0);
        } else if (dice < 16) {
            call("serve", random.nextInt(4), 1 + random.nextInt(random.nextBoolean() ? 20 : 99));
        } else if (dice < 17) {
            call("grind", random.nextInt(16));
        } else if (dice < 19) {
            call("days", 1 + random.nextInt(random.nextInt(5) == 0 ? 12 : 2));
        } else {
            call("undo");
        }
    }

    private void askCrowd() throws Exception {
        int tool = random.nextInt(4);
        call("laundered", tool, false);
        call("laundered", tool, true);
        call("guard", tool);
        call("word", tool);
        call("worst", tool, random.nextInt(4), random.nextInt(10));
        call("after", tool, random.nextInt(4), harm(), random.nextInt(10));
        for (int other = 0; other < 4; other++) {
            call("exchange", tool, other, false);
            call("exchange", tool, other, true);
            call("joint", tool, other);
        }
        call("clean");
        for (int k = -1; k < 4; k++) {
            call("cell", k);
        }
        call("jury", random.nextInt(16), tool);
        int head = 1 + 3 * random.nextInt(5);
        call("clock", head, below(10), random.nextBoolean());
        call("with", random.nextInt(16));
        call("strokes", random.nextInt(16), random.nextBoolean());
        call("sure", random.nextInt(3));
        call("led", random.nextInt(16));
        call("part", random.nextInt(16), 8);
        call("culprits", ofSomeHead(1), ofSomeHead(2), Math.max(0, model.count(5) - random.nextInt(4)));
    }

    /** Mostly a number that is one of so many. */
    private int below(int many) {
        return random.nextInt(25) == 0 || many <= 0 ? random.nextInt(many + 4) - 2 : random.nextInt(many);
    }

    private int tool() {
        return below(model.count(1));
    }

    private int master() {
        return below(model.count(2));
    }

    private int part() {
        return below(model.count(0));
    }

    private int harm() {
        return 1 + random.nextInt(random.nextInt(20) == 0 ? 999 : mostHarm);
    }

    private int spare(int sort) {
        for (int tries = 0; tries < 20 && model.count(0) > 0; tries++) {
            int part = random.nextInt(model.count(0));
            if (model.part(part, 0) == sort && model.part(part, 6) == -1) {
                return part;
            }
        }
        return part();
    }

    /** EDGE or GRADE of a TOOL's head, if there is one. */
    private int ofSomeHead(int what) {
        int tool = model.count(1) == 0 ? -1 : random.nextInt(model.count(1));
        int head = tool == -1 ? -1 : model.tool(tool, 1);
        return head == -1 || random.nextInt(5) == 0 ? below(10) : what == 1 ? model.part(head, 1) : model.part(head, 2) / 10;
    }

    private void any(Method method) throws Exception {
        String name = method.getName();
        boolean rare = List.of("shop", "law", "feed", "back", "image", "seed", "days").contains(name);
        if (rare && random.nextInt(4) != 0) {
            return;
        }
        Object[] arguments = new Object[method.getParameterCount()];
        for (int i = 0; i < arguments.length; i++) {
            boolean flag = method.getParameterTypes()[i] == boolean.class;
            arguments[i] = flag ? (Object) random.nextBoolean() : (Object) number(name, i);
        }
        call(name, arguments);
    }

    private int number(String name, int place) {
        int dice = random.nextInt(40);
        if (dice == 0) {
            return random.nextInt();
        }
        if (dice == 1) {
            return random.nextBoolean() ? Integer.MAX_VALUE : Integer.MIN_VALUE;
        }
        if (dice == 2) {
            return random.nextInt(120) - 20;
        }
        return switch (name + place) {
            case "tool0", "laundered0", "guard0", "word0", "exchange0", "exchange1", "joint0", "joint1", "jury1", "pairs1",
                    "swap0", "serve0", "after0", "worst0", "deed0" -> tool();
            case "master0", "alibi0", "pairs0", "after1", "worst1", "deed1" -> master();
            case "part0", "rule0", "with0", "strokes0", "clock0", "led0", "grind0", "nail0", "swap2" -> part();
            case "part1" -> below(9);
            case "tool1", "cell0" -> below(6);
            case "rule1" -> below(4);
            case "truth1" -> below(7);
            case "log1" -> below(5);
            case "count0" -> below(15);
            case "culprits0", "sure0" -> ofSomeHead(1);
            case "culprits1", "clock1" -> ofSomeHead(2);
            case "culprits2", "alibi1", "harmed0", "harmed1" -> Math.max(0, model.count(5) - random.nextInt(40) + 3);
            case "after2", "deed2" -> harm();
            case "after3", "worst2", "deed3" -> below(10);
            case "days0" -> below(61);
            case "trial0", "span0" -> random.nextInt(61);
            case "truth0" -> below(model.count(6));
            case "log0" -> below(model.count(12));
            case "jury0" -> random.nextInt(64);
            case "serve1" -> 1 + random.nextInt(random.nextBoolean() ? 99 : 5);
            case "end0" -> random.nextInt(40);
            default -> random.nextInt(12) - 1;
        };
    }

    private void text(String kind, String text) throws Exception {
        feed(text.substring(0, Math.min(400, text.length())).getBytes(StandardCharsets.ISO_8859_1));
        made.add("   '" + text + "'");
        call(kind);
        call("fault");
    }

    private void feed(byte[] bytes) throws Exception {
        call("end", 0);
        for (int at = 0; at < bytes.length; at += 20) {
            Object[] numbers = new Object[5];
            for (int i = 0; i < 5; i++) {
                int number = 0;
                for (int k = at + 4 * i; k < at + 4 * i + 4; k++) {
                    number = number << 8 | (k < bytes.length ? bytes[k] & 255 : 0);
                }
                numbers[i] = number;
            }
            call("feed", numbers);
        }
        call("end", bytes.length);
    }

    private void call(String name, Object... arguments) throws Exception {
        if (calls == MOST_CALLS) {
            return;
        }
        calls++;
        String told = name + java.util.Arrays.toString(arguments);
        String got = answer(court, name, arguments);
        String want = answer(model, name, arguments);
        made.add(told + " = " + got);
        Kit.due(told, got, want);
        wrong |= !got.equals(want);
    }

    private static String answer(Object of, String name, Object... arguments) throws Exception {
        for (Method method : of.getClass().getDeclaredMethods()) {
            if (method.getName().equals(name) && Modifier.isPublic(method.getModifiers())) {
                try {
                    return String.valueOf(method.invoke(of, arguments));
                } catch (InvocationTargetException e) {
                    return "throws " + e.getCause().getClass().getSimpleName();
                }
            }
        }
        throw new NoSuchMethodException(name);
    }

    // ---- texts

    private String bigShop() {
        StringBuilder text = new StringBuilder();
        int parts = 6 + random.nextInt(9);
        for (int i = 0; i < parts; i++) {
            text.append(i == 0 ? "" : ";").append(partLine());
        }
        return text.toString();
    }

    private String partLine() {
        String[] sorts = {"handle", "head", "joint", "head"};
        return "part " + sorts[random.nextInt(4)] + " edge " + random.nextInt(4) + " wear " + random.nextInt(100);
    }

    /** Tools of parts that may fit; those that do not make the text wrong, so it is told tool by tool. */
    private String toolsText() throws Exception {
        for (int i = 0; i < 4; i++) {
            StringBuilder line = new StringBuilder("tool");
            int sorts = 0;
            for (int part = 0; part < model.count(0); part++) {
                int sort = model.part(part, 0);
                boolean fits = model.part(part, 6) == -1 && (sorts >> sort & 1) == 0;
                if (fits && random.nextInt(3) > 0) {
                    line.append(' ').append(part);
                    sorts |= 1 << sort;
                }
            }
            text("shop", line.toString());
        }
        return "master " + random.nextInt(10) + ";master " + random.nextInt(10) + ";master " + random.nextInt(10) + ";damp "
                + random.nextInt(101) + ";limit " + random.nextInt(2 * mostHarm);
    }

    private String shopText() {
        StringBuilder text = new StringBuilder(blanks());
        int lines = random.nextInt(20) == 0 ? 12 + random.nextInt(5) : random.nextInt(5);
        for (int i = 0; i < lines; i++) {
            text.append(i == 0 ? "" : ";").append(blanks()).append(shopLine()).append(blanks());
        }
        return text.toString();
    }

    private String shopLine() {
        return switch (random.nextInt(10)) {
            case 0 -> partLine();
            case 1 -> "tool " + random.nextInt(16) + (random.nextBoolean() ? " " + random.nextInt(16) : "");
            case 2 -> "master" + random.nextInt(random.nextInt(9) == 0 ? 12 : 10);
            case 3 -> "nail " + random.nextInt(16);
            case 4 -> "damp " + random.nextInt(random.nextInt(9) == 0 ? 200 : 101);
            case 5 -> "limit " + random.nextInt(random.nextInt(9) == 0 ? 20000 : 3 * mostHarm);
            default -> "need " + random.nextInt(random.nextInt(9) == 0 ? 34 : 32) + " " + random.nextInt(random.nextInt(9) == 0 ? 7 : 3);
        };
    }

    private String blanks() {
        return "   ".substring(0, random.nextInt(9) == 0 ? random.nextInt(4) : 0);
    }

    private String lawText() {
        StringBuilder text = new StringBuilder(blanks());
        int lines = random.nextInt(20) == 0 ? 11 + random.nextInt(3) : random.nextInt(7);
        for (int i = 0; i < lines; i++) {
            String[] kinds = {"answer", "answer", "plead", "heir", "heir", "blunt"};
            String kind = kinds[random.nextInt(6)];
            int most = random.nextInt(30) == 0 ? 1001 : kind.equals("blunt") ? 9 : kind.equals("plead") ? 50 : 101;
            text.append(i == 0 ? "" : ";").append(blanks()).append(kind).append(' ').append(random.nextInt(most)).append(blanks());
            if (random.nextInt(3) > 0) {
                text.append(" if ").append(condition(0));
            }
        }
        return text.toString();
    }

    private String condition(int depth) {
        String joint = random.nextBoolean() ? " and " : " or ";
        return switch (depth > 8 ? 9 : random.nextInt(10)) {
            case 0 -> "(" + blanks() + condition(depth + 1) + blanks() + ")";
            case 1 -> "not " + condition(depth + 1);
            case 2, 3, 4 -> condition(depth + 1) + joint + condition(depth + 1);
            case 5 -> new String[] {"head", "handle", "joint", "nailed"}[random.nextInt(4)];
            case 6 -> "not(" + condition(depth + 2) + ")";
            default -> sum() + blanks() + (random.nextBoolean() ? "<" : ">") + blanks() + sum();
        };
    }

    private String sum() {
        String[] words = {"edge", "wear", "guilt", "harm", "hard", "master", "day", "tool"};
        String term = random.nextInt(3) == 0 ? "" + random.nextInt(random.nextInt(30) == 0 ? 1100 : 120) : words[random.nextInt(8)];
        return random.nextInt(3) == 0 ? term + blanks() + "+" + blanks() + sum() : term;
    }

    /** A sign more, fewer, or another one. */
    private String spoiled(String text) {
        int at = random.nextInt(text.length() + 1);
        String signs = "abdehilnort019 ;()<>+x\u00ff";
        String sign = "" + signs.charAt(random.nextInt(signs.length()));
        int less = at < text.length() && random.nextBoolean() ? 1 : 0;
        return text.substring(0, at) + (random.nextInt(3) == 0 ? "" : sign) + text.substring(at + less);
    }
}
