import java.nio.charset.StandardCharsets;
import java.util.concurrent.Callable;

/** What the tests share: feeding texts, and telling answers that are not due. */
final class Kit {
    static final String INDEX = "IndexOutOfBoundsException";
    static final String ARGUMENT = "IllegalArgumentException";
    static final String STATE = "IllegalStateException";
    static final String UNSUPPORTED = "UnsupportedOperationException";
    static final String NO_ELEMENT = "NoSuchElementException";

    /** Two tools, three spare parts, three masters, LIMIT 50; the shop of the document's own runs. */
    static final String SHOP = "part handle edge 1 wear 5;part head edge 3 wear 18;part joint edge 0 wear 0;"
            + "part handle edge 2 wear 0;part head edge 3 wear 25;part head edge 5 wear 9;part handle edge 0 wear 0;"
            + "tool 0 1 2;tool 3 4;master 2;master 3;master 7;limit 50";

    private static int checked = 0;
    private static int wrong = 0;

    private Kit() {
    }

    static void due(String call, Object got, Object want) {
        checked++;
        String answered = String.valueOf(got);
        String wanted = String.valueOf(want);
        if (!answered.equals(wanted)) {
            wrong++;
            int from = Math.max(0, differ(answered, wanted) - 20);
            System.out.println(call + " answered " + cut(answered, from) + ", due is " + cut(wanted, from));
        }
    }

    private static int differ(String one, String other) {
        int at = 0;
        while (at < one.length() && at < other.length() && one.charAt(at) == other.charAt(at)) {
            at++;
        }
        return at;
    }

    /** Long answers are told from shortly ahead of where they differ. */
    private static String cut(String text, int from) {
        return text.length() < 100 ? text : ".." + text.substring(from, Math.min(text.length(), from + 60)) + "..";
    }

    /** The call must throw just that exception. */
    static void refused(String call, String exception, Callable<?> made) {
        due(call, answer(made), "throws " + exception);
    }

    /** What a call answers, or which exception it throws. */
    static String answer(Callable<?> made) {
        try {
            return String.valueOf(made.call());
        } catch (Exception e) {
            return "throws " + e.getClass().getSimpleName();
        }
    }

    /** Ends a test: exit code 1, if an answer was not due. */
    static void close() {
        System.out.println(wrong == 0 ? checked + " answers are as due" : wrong + " answers are not as due");
        if (wrong != 0) {
            System.exit(1);
        }
    }

    static void feed(ToolCourt x, byte[] bytes) {
        x.end(0);
        for (int at = 0; at < bytes.length; at += 20) {
            x.feed(four(bytes, at), four(bytes, at + 4), four(bytes, at + 8), four(bytes, at + 12), four(bytes, at + 16));
        }
        x.end(bytes.length);
    }

    static void feed(ToolCourt x, String text) {
        feed(x, text.getBytes(StandardCharsets.ISO_8859_1));
    }

    private static int four(byte[] bytes, int at) {
        int number = 0;
        for (int i = at; i < at + 4; i++) {
            number = number << 8 | (i < bytes.length ? bytes[i] & 255 : 0);
        }
        return number;
    }

    static int shop(ToolCourt x, String text) {
        feed(x, text);
        return x.shop();
    }

    static int law(ToolCourt x, String text) {
        feed(x, text);
        return x.law();
    }

    /** A new court with these texts of the shop. */
    static ToolCourt court(String... texts) {
        ToolCourt x = new ToolCourt();
        for (String text : texts) {
            shop(x, text);
        }
        return x;
    }

    /** fault() of a text of the shop, read into this court; NONE, if it stands. */
    static int shopFault(ToolCourt x, String text) {
        feed(x, text);
        boolean thrown = answer(x::shop).startsWith("throws " + ARGUMENT);
        return thrown == (x.fault() != ToolCourt.NONE) ? x.fault() : -1000;
    }

    static int lawFault(ToolCourt x, String text) {
        feed(x, text);
        boolean thrown = answer(x::law).startsWith("throws " + ARGUMENT);
        return thrown == (x.fault() != ToolCourt.NONE) ? x.fault() : -1000;
    }

    static String times(int n, String line) {
        StringBuilder all = new StringBuilder();
        for (int i = 0; i < n; i++) {
            all.append(i == 0 ? "" : ";").append(line);
        }
        return all.toString();
    }
}
