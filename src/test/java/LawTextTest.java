/** Promises 5, 6 and 10: texts of THE LAW, their first wrong byte, and what they tell of a PART. */
public final class LawTextTest {
    public static void main(String[] args) {
        rightTexts();
        wrongTexts();
        depth();
        withoutText();
        sums();
        atoms();
        joinedAtoms();
        factsOfADeed();
        wrongInputs();
        Kit.close();
    }

    private static void fault(String text, int due) {
        Kit.due("6: fault() of '" + text + "'", Kit.lawFault(new ToolCourt(), text), due);
    }

    private static void rightTexts() {
        ToolCourt x = Kit.court(Kit.SHOP);
        x.days(1);
        Kit.due("5: LINES", Kit.law(x, "answer 50 if head;plead 3"), 2);
        Kit.due("49: LINES", x.count(4), 2);
        Kit.due("5: the TAPE is used up", x.end(1), false);
        Kit.due("46: acts are forgotten by a text", x.count(13), 0);
        Kit.due("5: twelve LINES", Kit.law(x, Kit.times(12, "heir 5")), 12);
        Kit.due("10: the LAW before is gone", x.rule(1, 0), 0);
        Kit.due("5: no LINE", Kit.law(x, ""), 0);
        Kit.due("49: no LINES", x.count(4), 0);
        Kit.due("10: a text without LINES tells nothing", x.rule(1, 0), 0);
        Kit.due("5: blanks alone", Kit.law(x, "  "), 0);
        Kit.due("5: without blanks", Kit.law(x, "heir7if(head)and not(wear<3)or 1+edge>2+2"), 1);
        Kit.due("5: numbers of three digits", Kit.law(x, "answer 999;plead 007;heir 000;blunt 099 if 999>day"), 4);
        x.days(1);
        Kit.feed(x, "answer 1;answer x");
        Kit.refused("5: a wrong text", Kit.ARGUMENT, x::law);
        Kit.due("6: its wrong byte", x.fault(), 16);
        Kit.due("5: the LAW before stays", x.count(4), 4);
        Kit.due("5: the TAPE is used up by a wrong text", x.end(1), false);
        Kit.due("46: acts are not forgotten by a wrong text", x.count(13), 1);
    }

    private static void wrongTexts() {
        fault("answer", 6);
        fault("tax", 0);
        fault("  tax 5", 2);
        fault("part head edge 1 wear 1", 0);
        fault("answer if head", 7);
        fault("if 5", 0);
        fault("heir 1000", 5);
        fault("heir 0001", 5);
        fault("blunt 100", 6);
        fault("blunt 99", -1);
        fault("heir 5;", 7);
        fault("heir 5;;", 7);
        fault("heir 5 heir 5", 7);
        fault("heir 5 iff head", 7);
        fault("heir 5 ifhead", 7);
        fault("heir 5 head", 7);
        fault("plead 5 if", 10);
        fault("plead 5 if ;", 11);
        fault("plead 5 if harm", 15);
        fault("plead 5 if harm;", 15);
        fault("plead 5 if harm <", 17);
        fault("plead 5 if harm < head", 18);
        fault("plead 5 if harm < 1 < 2", 20);
        fault("plead 5 if harm + < 2", 18);
        fault("plead 5 if harm = 2", 16);
        fault("plead 5 if harm < 1000", 18);
        fault("plead 5 if 1 + 0001 > 2", 15);
        fault("plead 5 if head < 2", 16);
        fault("plead 5 if head + 1 > 2", 16);
        fault("plead 5 if head nailed", 16);
        fault("plead 5 if head and", 19);
        fault("plead 5 if head and or head", 20);
        fault("plead 5 if head or", 18);
        fault("plead 5 if or head", 11);
        fault("plead 5 if not", 14);
        fault("plead 5 if not and", 15);
        fault("plead 5 if (head", 16);
        fault("plead 5 if (head;", 16);
        fault("plead 5 if (head))", 17);
        fault("plead 5 if head)", 15);
        fault("plead 5 if ()", 12);
        fault("plead 5 if (1 + 2) > 2", 17);
        fault("plead 5 if (1) > 2", 13);
        fault("plead 5 if noses > 2", 11);
        fault("plead 5 if limit > 2", 11);
        fault("plead 5 if Head", 11);
        fault("plead 5 if head & head", 16);
        fault("plead 5 if (head and (wear > 3 or nailed)", 41);
        fault(Kit.times(13, "heir 5"), 84);
        fault(Kit.times(12, "heir 5") + ";", 84);
        fault(Kit.times(12, "heir 5") + ";  tax", 86);
    }

    private static void depth() {
        fault("heir 5 if not not not not not not head", -1);
        fault("heir 5 if not not not not not not not head", 34);
        fault("heir 5 if ((((((head))))))", -1);
        fault("heir 5 if (((((((head)))))))", 16);
        fault("heir 5 if not(not(not(head)))", -1);
        fault("heir 5 if not(not(not(not head)))", 22);
        fault("heir 5 if not(not(not((head))))", 22);
        // What is closed does not count any more: ATOMS beside one another are not within one another.
        fault("heir 5 if ((((((head)))))) and not not not not not not head", -1);
        fault("heir 5 if (((((not head and not head)))))", -1);
        fault("heir 5 if (((((not head and not not head)))))", 32);
        // Nothing of a wrong text is left for the next one, nor of a LINE for the next.
        ToolCourt x = Kit.court(Kit.SHOP);
        Kit.due("6: a bracket stays open", Kit.lawFault(x, "heir 5 if not (head and (nailed or not"), 38);
        Kit.due("6: the next text", Kit.lawFault(x, "heir 5 if not (head) or wear > 99"), -1);
        Kit.due("10: a handle", x.rule(0, 2), 5);
        Kit.due("10: a head", x.rule(1, 2), 0);
        Kit.due("6: six deep in each LINE", Kit.lawFault(x, "heir 1 if ((((((head))))));heir 2 if ((((((head))))));heir 4 if head)"), 68);
    }

    private static void withoutText() {
        ToolCourt x = Kit.court(Kit.SHOP);
        int[][] due = {{0, 0, 0, 0}, {100, 0, 0, 1}, {0, 0, 0, 0}};
        for (int part = 0; part < 3; part++) {
            for (int what = 0; what < 4; what++) {
                Kit.due("10: rule(" + part + ", " + what + ") without a text", x.rule(part, what), due[part][what]);
            }
        }
    }

    private static void sums() {
        ToolCourt x = Kit.court(Kit.SHOP);
        Kit.law(x, "answer 60;answer 30;answer 9;plead 60;plead 41;heir 999;blunt 50;blunt 50;blunt 7 if handle");
        Kit.due("10: ANSWERS are a sum", x.rule(0, 0), 99);
        Kit.due("10: PLEADS, 100 at most", x.rule(0, 1), 100);
        Kit.due("10: HEIRS, 100 at most", x.rule(0, 2), 100);
        Kit.due("10: BLUNTS, 99 at most", x.rule(1, 3), 99);
    }

    /** rule() of PARTS 0 to 6 by a condition, as bits. */
    private static int holds(ToolCourt x, String condition) {
        Kit.law(x, "heir 1 if " + condition);
        int set = 0;
        for (int part = 0; part < x.count(0); part++) {
            set |= x.rule(part, 2) << part;
        }
        return set;
    }

    /** PARTS 0, 3, 6 handles, 1, 4, 5 heads, 2 a joint; WEAR 5, 18, 0, 0, 25, 9, 0; EDGE 1, 3, 0, 2, 3, 5, 0. */
    private static ToolCourt nailedCourt() {
        return Kit.court(Kit.SHOP, "nail 0;nail 4");
    }

    private static void atoms() {
        ToolCourt x = nailedCourt();
        Kit.due("10: handle", holds(x, "handle"), 73);
        Kit.due("10: head", holds(x, "head"), 50);
        Kit.due("10: joint", holds(x, "joint"), 4);
        Kit.due("10: nailed", holds(x, "nailed"), 17);
        Kit.due("10: not nailed", holds(x, "not nailed"), 110);
        Kit.due("10: wear > 9", holds(x, "wear > 9"), 18);
        Kit.due("10: 9 < wear", holds(x, "9 < wear"), 18);
        Kit.due("10: wear < 9", holds(x, "wear < 9"), 77);
        Kit.due("10: edge + wear > 13 + 1", holds(x, "edge + wear > 13 + 1"), 18);
        Kit.due("10: edge + wear + 1 > 14", holds(x, "edge + wear + 1 > 14"), 50);
        Kit.due("10: tool > 0", holds(x, "tool > 0"), 24);
        Kit.due("10: tool < 1", holds(x, "tool < 1"), 103);
        Kit.due("10: day > 0", holds(x, "day > 0"), 0);
        Kit.due("10: harm + hard + master > 0", holds(x, "harm + hard + master > 0"), 0);
        x.deed(0, 0, 5, 0);
        x.days(2);
        Kit.due("10: day > 1", holds(x, "day > 1"), 127);
        Kit.law(x, "answer 100 if head");
        x.deed(0, 0, 5, 0);
        Kit.due("10: guilt > 4", holds(x, "guilt > 4"), 2);
    }

    private static void joinedAtoms() {
        ToolCourt x = nailedCourt();
        Kit.due("10: and ahead of or", holds(x, "joint or head and wear > 9"), 22);
        Kit.due("10: and ahead of or, the other way", holds(x, "head and wear > 9 or joint"), 22);
        Kit.due("10: or in brackets", holds(x, "(joint or head) and wear > 9"), 18);
        Kit.due("10: or in brackets behind", holds(x, "wear < 9 and (joint or handle)"), 77);
        Kit.due("10: not binds most", holds(x, "not head and wear < 5"), 76);
        Kit.due("10: not of a bracket", holds(x, "not (head and wear > 9)"), 109);
        Kit.due("10: not of a sum", holds(x, "not wear > 9"), 109);
        Kit.due("10: not not", holds(x, "not not head"), 50);
        Kit.due("10: not of a bracket, then or", holds(x, "not (head or handle) or nailed"), 21);
        Kit.due("10: and, or, and", holds(x, "head and nailed or handle and nailed"), 17);
        Kit.due("10: or, and, or", holds(x, "joint or handle and nailed or edge > 4"), 37);
        Kit.due("10: three ands", holds(x, "head and wear > 1 and edge < 4 and nailed"), 16);
        Kit.due("10: deep", holds(x, "(joint or (head and (nailed or (wear < 10 and (edge > 4 or handle)))))"), 52);
    }

    private static void factsOfADeed() {
        ToolCourt x = Kit.court(Kit.SHOP);
        Kit.law(x, "answer 100 if head and harm > 9;answer 50 if handle and hard > 3;answer 25 if joint and master > 1");
        Kit.due("39: harm", x.after(0, 0, 9, 0), 0);
        Kit.due("39: harm above", x.after(0, 0, 10, 0), 10);
        Kit.due("39: hard", x.after(0, 0, 8, 4), 4);
        Kit.due("39: master", x.after(0, 2, 8, 3), 2);
        Kit.due("39: all", x.after(0, 2, 20, 9), 35);
        Kit.due("10: of no DEED", x.rule(1, 0), 0);
    }

    private static void wrongInputs() {
        ToolCourt x = Kit.court(Kit.SHOP);
        Kit.refused("10: rule(7, 0)", Kit.INDEX, () -> x.rule(7, 0));
        Kit.refused("10: rule(-1, 9)", Kit.INDEX, () -> x.rule(-1, 9));
        Kit.refused("10: rule(0, 4)", Kit.NO_ELEMENT, () -> x.rule(0, 4));
        Kit.refused("10: rule(0, -1)", Kit.NO_ELEMENT, () -> x.rule(0, -1));
    }
}
