/** What README.md tells under Use. */
public final class ReadmeTest {
    public static void main(String[] args) {
        ToolCourt court = new ToolCourt();
        feed(court, "part head edge 3 wear 18; part head edge 3 wear 25; tool 0; master 2; limit 50");
        Kit.due("4: the first text", court.shop(), 1);
        feed(court, "answer 100 if head; plead 20 if wear > 15; heir 60; blunt 1");
        Kit.due("5: its lines", court.law(), 4);
        Kit.due("11: the mark", court.deed(0, 0, 80, 4), 31);
        Kit.due("17: tool 0", court.guilty(), 1);
        Kit.due("8: 64 of 80", court.tool(0, 3), 64);
        Kit.due("20: one swap", court.laundered(0, false), 1);
        Kit.due("22: so many in a hundred", court.word(0), 80);
        Kit.due("12: what passed on", court.swap(0, 1, 1), 38);
        Kit.due("46: all as ahead", court.undo(), true);
        Kit.due("46: the guilt is back", court.tool(0, 3), 64);
        feed(court, "part head edge 3 wear 100");
        Kit.refused("4: WEAR 100", Kit.ARGUMENT, court::shop);
        Kit.due("6: where 100 begins", court.fault(), 22);
        Kit.close();
    }

    private static void feed(ToolCourt court, String text) {
        court.end(0);
        for (int at = 0; at < text.length(); at += 20) {
            court.feed(four(text, at), four(text, at + 4), four(text, at + 8), four(text, at + 12), four(text, at + 16));
        }
        court.end(text.length());
    }

    private static int four(String text, int from) {
        int number = 0;
        for (int i = from; i < from + 4; i++) {
            number = number << 8 | (i < text.length() ? text.charAt(i) : 0);
        }
        return number;
    }
}
