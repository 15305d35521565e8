/** Promises 17 to 24, 28 and 33: who is GUILTY, marks, laundering, exchanges, the cell, juries. */
public final class GuiltTest {
    /** Three heads in tools, two spare heads, two spare handles, a spare joint. */
    private static final String PARTS = "part handle edge 0 wear 0;part head edge 0 wear 0;part joint edge 0 wear 0;"
            + "part handle edge 0 wear 0;part head edge 0 wear 0;part head edge 0 wear 0;part handle edge 0 wear 0;"
            + "part handle edge 0 wear 0;part joint edge 0 wear 0";

    public static void main(String[] args) {
        guilty();
        culprits();
        ask();
        laundered();
        firstWay();
        manySpare();
        guard();
        word();
        clean();
        exchange();
        exchangeWithHeirs();
        cell();
        cellTooLong();
        cellOrders();
        jury();
        Kit.close();
    }

    private static void guilty() {
        ToolCourt x = Kit.court(Kit.SHOP);
        x.deed(0, 0, 50, 0);
        Kit.due("17: LIMIT is no more than LIMIT", x.guilty(), 0);
        x.deed(1, 0, 51, 0);
        Kit.due("17: more than LIMIT", x.guilty(), 2);
        Kit.shop(x, "limit 49");
        Kit.due("17: both", x.guilty(), 3);
        x.swap(1, 1, 5);
        Kit.due("17: what is SPARE answers nowhere", x.guilty(), 1);
    }

    private static void culprits() {
        ToolCourt x = Kit.court("part head edge 3 wear 9;part head edge 3 wear 8;part head edge 3 wear 9;part handle edge 3 wear 9;tool 0;tool 1;tool 3;damp 100");
        Kit.due("18: today", x.culprits(3, 0, 0), 3);
        Kit.due("18: another EDGE", x.culprits(4, 0, 0), 0);
        x.swap(2, 1, 2);
        x.swap(1, 1, -1);
        x.days(1);
        Kit.due("18: DAY 0, at its end, ahead of the WEAR", x.culprits(3, 0, 0), 5);
        Kit.due("18: DAY 0, another GRADE", x.culprits(3, 1, 0), 0);
        Kit.due("18: DAY 1", x.culprits(3, 1, 1), 5);
        Kit.due("18: DAY 1, no more", x.culprits(3, 0, 1), 0);
        x.swap(1, 1, 1);
        Kit.shop(x, "part head edge 3 wear 0;tool 4");
        Kit.due("18: a TOOL that came later was not there", x.culprits(3, 0, 0), 5);
        Kit.due("18: a TOOL that came later", x.culprits(3, 0, 1), 10);
        x.days(29);
        Kit.due("18: 30 SHEETS", x.culprits(3, 0, 0), 5);
        x.days(1);
        Kit.due("18: the SHEET is not kept any more", x.culprits(3, 0, 0), -1);
        Kit.due("18: the next one is", x.culprits(3, 1, 1), 5);
        Kit.due("49: SHEETS", x.count(14), 30);
        Kit.refused("18: EDGE -1", Kit.ARGUMENT, () -> x.culprits(-1, 0, 0));
        Kit.refused("18: EDGE 10", Kit.ARGUMENT, () -> x.culprits(10, 0, 0));
        Kit.refused("18: GRADE -1", Kit.ARGUMENT, () -> x.culprits(0, -1, 0));
        Kit.refused("18: GRADE 10", Kit.ARGUMENT, () -> x.culprits(0, 10, 0));
        Kit.refused("18: DAY -1", Kit.ARGUMENT, () -> x.culprits(0, 0, -1));
        Kit.refused("18: DAY to come", Kit.ARGUMENT, () -> x.culprits(0, 0, 32));
        Kit.due("18: today is", x.culprits(9, 9, 31), 0);
    }

    private static void ask() {
        ToolCourt x = Kit.court("part head edge 3 wear 9;part head edge 3 wear 8;part head edge 4 wear 7;part handle edge 3 wear 9;tool 0;tool 1;tool 3");
        Kit.due("19: a tie is EDGE", x.ask(false), 0);
        Kit.due("19: two of two", x.ask(true), 2);
        x.swap(2, 1, 2);
        Kit.due("19: EDGE is fewer", x.ask(false), 0);
        Kit.due("19: two of three", x.ask(true), 2);
        ToolCourt y = Kit.court("part head edge 3 wear 9;part head edge 3 wear 18;part head edge 3 wear 27;tool 0;tool 1;tool 2");
        Kit.due("19: GRADE is fewer", y.ask(false), 1);
        Kit.due("19: one", y.ask(true), 1);
        y.swap(0, 1, -1);
        y.swap(1, 1, -1);
        Kit.due("19: a tie of one", y.ask(false), 0);
        Kit.due("19: one of one", y.ask(true), 1);
        y.swap(2, 1, -1);
        Kit.due("19: none", "" + y.ask(false) + y.ask(true), "00");
        ToolCourt z = Kit.court("part head edge 9 wear 99;part head edge 9 wear 95;tool 0;tool 1");
        Kit.due("19: the highest", z.ask(true), 2);
    }

    private static ToolCourt threeGuilty() {
        ToolCourt x = Kit.court(PARTS, "tool 0 1 2;tool 3 4;master 0;limit 50");
        Kit.law(x, "answer 40 if handle;answer 50 if head;answer 60 if joint");
        return x;
    }

    private static void laundered() {
        ToolCourt x = threeGuilty();
        Kit.due("20: none answers", "" + x.laundered(0, false) + x.laundered(0, true), "00");
        x.deed(0, 0, 100, 0);
        Kit.due("20: two of 40, 50, 60", x.laundered(0, false), 2);
        Kit.due("20: no SWAP of the handle first: head and joint", x.laundered(0, true), 1 << 5 | 1 << 8);
        Kit.shop(x, "limit 110");
        Kit.due("20: one is enough", x.laundered(0, false), 1);
        Kit.due("20: no SWAP of the head ahead of one: the joint", x.laundered(0, true), 1 << 8);
        x.nail(2, true);
        Kit.due("20: no SWAP of the handle ahead of one: the head", x.laundered(0, true), 1 << 5);
        x.nail(2, false);
        Kit.shop(x, "limit 150");
        Kit.due("20: it ANSWERS LIMIT", "" + x.laundered(0, false) + x.laundered(0, true), "00");
        Kit.shop(x, "limit 30");
        Kit.due("20: all three", x.laundered(0, false), 3);
        Kit.due("20: the first handle of two", x.laundered(0, true), 1 << 5 | 1 << 6 | 1 << 8);
        x.nail(2, true);
        Kit.due("20: NAILED", x.laundered(0, false), -1);
        Kit.due("20: BY none", x.laundered(0, true), -1);
        x.nail(2, false);
        Kit.law(x, "heir 50");
        Kit.due("20: half stays", x.laundered(0, false), -1);
        Kit.shop(x, "limit 75");
        Kit.due("20: half of 150", x.laundered(0, false), 3);
        Kit.refused("20: no TOOL", Kit.INDEX, () -> x.laundered(2, false));
        Kit.refused("20: TOOL -1", Kit.INDEX, () -> x.laundered(-1, true));
    }

    private static void firstWay() {
        // Both SPARE handles answer something themselves, so the second one is the first that helps.
        ToolCourt x = Kit.court(PARTS, "tool 0 1;tool 3 4;tool 6;tool 7;master 0;limit 45");
        Kit.law(x, "answer 100 if handle");
        x.swap(1, 0, -1);
        x.swap(1, 0, 3);
        x.deed(1, 0, 46, 0);
        x.swap(1, 0, -1);
        x.swap(2, 0, -1);
        x.deed(0, 0, 100, 0);
        Kit.due("20: PART 3 has 46 itself, so PART 6 comes", x.laundered(0, true), 1 << 6);
        Kit.shop(x, "limit 46");
        Kit.due("20: by numbers PART 3 comes", x.laundered(0, true), 1 << 3);
        x.swap(0, 0, -1);
        Kit.due("20: no PART, no SWAP: it answers nothing", x.laundered(0, false), 0);
    }

    private static void manySpare() {
        // Fifteen SPARE heads, of which all but the last one answer too much themselves; the TOOL has PART 7.
        String part = "part head edge 0 wear 0";
        ToolCourt x = Kit.court(Kit.times(14, part), part + ";" + part + ";tool 7;master 0;limit 5");
        for (int head = 0; head < 15; head++) {
            if (head != 7) {
                x.swap(0, 1, head);
                x.deed(0, 0, 6, 0);
            }
        }
        x.swap(0, 1, 7);
        x.deed(0, 0, 6, 0);
        Kit.due("20: the last of fifteen", x.laundered(0, true), 1 << 15);
        Kit.shop(x, "limit 0");
        Kit.due("20: it has no GUILT", x.laundered(0, false), 1);
        x.swap(0, 1, 0);
        x.serve(0, 1);
        x.swap(0, 1, 7);
        Kit.due("20: the first of fifteen", x.laundered(0, true), 1);
        Kit.due("49: all are SPARE but one", x.count(9), 65535 - 128);
    }

    private static void guard() {
        ToolCourt x = threeGuilty();
        Kit.due("21: 0 now", x.guard(0), 0);
        x.deed(0, 0, 100, 0);
        Kit.due("21: head and joint, or handle and joint", x.guard(0), 4);
        Kit.shop(x, "limit 30");
        Kit.due("21: each", x.guard(0), 7);
        Kit.shop(x, "limit 110");
        Kit.due("21: none alone", x.guard(0), 0);
        x.nail(1, true);
        Kit.due("21: the joint is left, or the handle", x.guard(0), 0);
        Kit.shop(x, "limit 100");
        Kit.due("21: the joint is left", x.guard(0), 4);
        x.nail(2, true);
        Kit.due("21: none now", x.guard(0), 0);
        Kit.refused("21: no TOOL", Kit.INDEX, () -> x.guard(2));
        Kit.refused("21: TOOL -1", Kit.INDEX, () -> x.guard(-1));
    }

    private static void word() {
        ToolCourt x = Kit.court(Kit.SHOP);
        Kit.due("22: it is not GUILTY", x.word(0), -1);
        x.deed(0, 0, 80, 0);
        Kit.due("22: 51 of 80", x.word(0), 64);
        Kit.law(x, "answer 100 if head;heir 100");
        Kit.due("22: in place of THE LAW's", x.word(0), 64);
        x.deed(0, 0, 919, 0);
        Kit.due("22: 51 of 999", x.word(0), 6);
        x.nail(1, true);
        Kit.due("22: without SWAPS none is needed", x.word(0), 0);
        Kit.due("22: a TOOL without GUILT", x.word(1), -1);
        x.nail(1, false);
        x.serve(0, 94);
        Kit.due("22: 59 are left", x.tool(0, 3), 59);
        Kit.due("22: 51 of 59", x.word(0), 87);
        x.serve(0, 1);
        Kit.due("22: 49 are left", x.word(0), -1);
        x.deed(0, 0, 2, 0);
        Kit.due("22: all of 51", x.word(0), 100);
        Kit.refused("22: no TOOL", Kit.INDEX, () -> x.word(2));
        Kit.refused("22: TOOL -1", Kit.INDEX, () -> x.word(-1));
    }

    private static void clean() {
        ToolCourt x = Kit.court(Kit.SHOP);
        x.deed(0, 0, 80, 0);
        Kit.due("23: the GUILTY one", x.clean(), 1);
        x.deed(1, 0, 80, 0);
        Kit.due("23: both by the same head", x.clean(), 3);
        x.nail(1, true);
        Kit.due("23: one is NAILED", x.clean(), 2);
        Kit.law(x, "heir 100");
        Kit.due("23: none", x.clean(), 0);
    }

    private static void exchange() {
        ToolCourt x = Kit.court(PARTS, "tool 0 1 2;tool 3 4 8;master 0;limit 100");
        Kit.law(x, "answer 40 if handle;answer 50 if head;answer 30 if joint");
        Kit.due("24: none is GUILTY", "" + x.exchange(0, 1, false) + x.exchange(0, 1, true), "00");
        x.deed(0, 0, 100, 0);
        Kit.due("24: one SORT", x.exchange(0, 1, false), 1);
        Kit.due("24: the least set", x.exchange(0, 1, true), 1);
        Kit.due("24: the other way round", x.exchange(1, 0, true), 1);
        x.nail(3, true);
        Kit.due("24: the other's is NAILED", x.exchange(0, 1, true), 2);
        x.nail(1, true);
        Kit.due("24: its own is NAILED", x.exchange(0, 1, true), 4);
        x.swap(1, 2, -1);
        Kit.due("24: the other has none", x.exchange(0, 1, true), -1);
        Kit.due("24: how many: none", x.exchange(0, 1, false), -1);
        x.nail(3, false);
        x.nail(1, false);
        Kit.shop(x, "limit 70");
        Kit.due("24: 120 are too many for one with 40", x.exchange(0, 1, true), 2);
        Kit.shop(x, "limit 60");
        x.swap(1, 2, 8);
        Kit.due("24: 40 and 80, 50 and 70, 30 and 90", x.exchange(0, 1, true), -1);
        Kit.law(x, "answer 10 if handle;answer 20 if head;answer 30 if joint");
        x.serve(0, 12);
        x.deed(0, 0, 100, 0);
        x.deed(1, 0, 200, 0);
        // 10, 20, 30 and 20, 40, 60
        Kit.shop(x, "limit 90");
        Kit.due("24: by the joint both have 90", x.exchange(0, 1, true), 4);
        Kit.due("24: by handle and head they have, too, but that is two", x.exchange(0, 1, false), 1);
        x.nail(2, true);
        Kit.due("24: now two", x.exchange(0, 1, false), 2);
        Kit.due("24: handle and head", x.exchange(0, 1, true), 3);
        Kit.refused("24: no TOOL", Kit.INDEX, () -> x.exchange(2, 2, true));
        Kit.refused("24: no other TOOL", Kit.INDEX, () -> x.exchange(0, -1, true));
        Kit.refused("24: no first TOOL", Kit.INDEX, () -> x.exchange(2, 0, true));
        Kit.refused("24: both are one", Kit.ARGUMENT, () -> x.exchange(1, 1, true));
    }

    private static void exchangeWithHeirs() {
        ToolCourt x = Kit.court(PARTS, "tool 0 1;tool 3 4;master 0;limit 50");
        Kit.law(x, "answer 100 if head");
        x.deed(0, 0, 80, 0);
        x.deed(1, 0, 10, 0);
        Kit.law(x, "heir 50 if tool < 1;heir 10 if tool > 0");
        // 40 stay of 80, 1 of 10: the first TOOL has 10 - 1 + 40, the other 80 - 40 + 1.
        Kit.due("24: both ways at once", x.exchange(0, 1, true), 2);
        Kit.shop(x, "limit 49");
        Kit.due("24: 49 is just enough", x.exchange(0, 1, true), 2);
        Kit.shop(x, "limit 48");
        Kit.due("24: 48 is not", x.exchange(0, 1, true), -1);
        Kit.due("24: the other way round", x.exchange(1, 0, true), -1);
    }

    private static void cell() {
        ToolCourt x = Kit.court(Kit.SHOP, "need 0 0;need 2 0;need 0 1");
        Kit.due("28: none is GUILTY", "" + x.cell(-1) + x.cell(0), "0-1");
        x.deed(0, 0, 60, 0);
        Kit.due("28: six days and two needs", x.cell(-1), 8);
        Kit.due("28: the first", x.cell(0), 0);
        Kit.due("28: no second", x.cell(1), -1);
        Kit.due("28: no such k", "" + x.cell(-2) + x.cell(99), "-1-1");
        x.deed(1, 0, 61, 0);
        // 0 first: waits on DAYS 0 and 2, then 7 days: 15. 1 first: waits on DAY 0, then 6: 14.
        Kit.due("28: both", x.cell(-1), 14);
        Kit.due("28: 1 goes first", "" + x.cell(0) + x.cell(1) + x.cell(2), "10-1");
        Kit.shop(x, "need 1 1;need 3 1");
        Kit.due("28: 0 goes first", "" + x.cell(-1) + " " + x.cell(0) + x.cell(1), "15 01");
        Kit.shop(x, "need 2 1;need 1 0");
        Kit.due("28: 0 waits for DAY 3, 1 for DAY 4", "" + x.cell(-1) + " " + x.cell(0) + x.cell(1), "16 01");
        Kit.shop(x, "need 3 0");
        Kit.due("28: both wait for DAY 4: by numbers", "" + x.cell(-1) + " " + x.cell(0) + x.cell(1), "17 01");
        x.days(1);
        Kit.due("28: from today on", "" + x.cell(-1) + " " + x.cell(0) + x.cell(1), "16 01");
        ToolCourt y = Kit.court(Kit.SHOP, "need 0 0");
        y.deed(0, 0, 400, 0);
        Kit.due("28: needs are of 32 DAYS alone", y.cell(-1), 41);
    }

    private static void cellTooLong() {
        ToolCourt x = Kit.court(Kit.SHOP);
        x.deed(0, 0, 640, 0);
        Kit.due("28: 64 days", "" + x.cell(-1) + " " + x.cell(0), "64 0");
        x.deed(0, 0, 1, 0);
        Kit.due("28: 65 days", "" + x.cell(-1) + x.cell(0) + x.cell(1) + x.cell(-9) + x.cell(99), "-3-3-3-3-3");
        x.undo();
        Kit.shop(x, "need 31 0");
        Kit.due("28: a need makes 65", x.cell(-1), -3);
        for (int i = 0; i < 30; i++) {
            x.deed(1, 1, 999, 9);
        }
        Kit.due("28: far too long", x.cell(0), -3);
    }

    private static void cellOrders() {
        // Six TOOLS of two days each; each is needed on all DAYS but two of its own.
        StringBuilder parts = new StringBuilder("limit 1;master 0");
        StringBuilder tools = new StringBuilder();
        for (int i = 0; i < 6; i++) {
            parts.append(";part head edge 0 wear 0");
            tools.append(i == 0 ? "" : ";").append("tool ").append(i);
        }
        ToolCourt x = Kit.court(parts.toString(), tools.toString());
        int[] turns = {3, 5, 0, 4, 2, 1};
        for (int tool = 0; tool < 6; tool++) {
            x.deed(tool, 0, 20, 0);
            StringBuilder needs = new StringBuilder();
            for (int day = 0; day < 12; day++) {
                if (turns[day / 2] != tool) {
                    needs.append(needs.length() == 0 ? "" : ";").append("need ").append(day).append(' ').append(tool);
                }
            }
            Kit.shop(x, needs.toString());
        }
        Kit.due("28: the only order without a wait", x.cell(-1), 12);
        for (int k = 0; k < 6; k++) {
            Kit.due("28: turn " + k, x.cell(k), turns[k]);
        }
        Kit.due("28: behind the last", x.cell(6), -1);
    }

    private static void jury() {
        ToolCourt x = Kit.court(PARTS, "tool 0 1;tool 3 4;tool 5;master 0");
        x.deed(0, 0, 30, 0);
        x.deed(1, 0, 20, 0);
        Kit.due("33: nobody votes", x.jury(0, 0), false);
        Kit.due("33: one with less", x.jury(2, 0), true);
        Kit.due("33: itself and one with less", x.jury(3, 0), false);
        Kit.due("33: itself and two with less", x.jury(7, 0), true);
        Kit.due("33: one with more, one with less", x.jury(5, 1), false);
        Kit.due("33: one with less alone", x.jury(4, 1), true);
        Kit.due("33: itself alone", x.jury(1, 0), false);
        Kit.due("33: none with less", x.jury(7, 2), false);
        Kit.due("33: TOOLS that are none count for nothing", x.jury(-8 | 4, 1), true);
        Kit.due("33: all bits", x.jury(-1, 0), true);
        x.deed(2, 0, 20, 0);
        Kit.due("33: as much is not less", x.jury(4, 1), false);
        Kit.refused("33: no TOOL", Kit.INDEX, () -> x.jury(1, 3));
        Kit.refused("33: TOOL -1", Kit.INDEX, () -> x.jury(1, -1));
    }
}
