/** Promises 4 and 6: texts of THE SHOP, and their first wrong byte. */
public final class ShopTextTest {
    private static final String PART = "part head edge 1 wear 1";

    public static void main(String[] args) {
        rightTexts();
        wrongTexts();
        tooMany();
        wrongTextsLeaveNothing();
        twelveTexts();
        needs();
        Kit.close();
    }

    private static void fault(String text, int due) {
        Kit.due("6: fault() of '" + text + "'", Kit.shopFault(new ToolCourt(), text), due);
    }

    private static void rightTexts() {
        ToolCourt x = new ToolCourt();
        Kit.due("4: no LINE", Kit.shop(x, ""), 1);
        Kit.due("4: blanks alone", Kit.shop(x, "   "), 2);
        Kit.due("6: fault()", x.fault(), -1);
        Kit.due("4: without blanks", Kit.shop(x, "part handle edge9wear99;part head edge 0 wear0"), 3);
        Kit.due("4: with many blanks", Kit.shop(x, "  tool   1  0  ;  master 9 ;nail 1;damp 100 ; limit 9999  "), 4);
        Kit.due("4: the TAPE is used up", x.end(1), false);
        Kit.due("4: PARTS", x.count(0), 2);
        Kit.due("4: EDGE", x.part(0, 1), 9);
        Kit.due("4: WEAR", x.part(0, 2), 99);
        Kit.due("4: handle of the TOOL", x.tool(0, 0), 0);
        Kit.due("4: head of the TOOL", x.tool(0, 1), 1);
        Kit.due("4: joint of the TOOL", x.tool(0, 2), -1);
        Kit.due("4: nailed", x.part(1, 4), 1);
        Kit.due("4: not nailed", x.part(0, 4), 0);
        Kit.due("4: BENCH", x.master(0, false), 9);
        Kit.due("4: DAMP", x.count(8), 100);
        Kit.due("4: LIMIT", x.count(7), 9999);
        Kit.due("4: zeros ahead", Kit.shop(x, "damp 0007;limit 0000;master 0003;nail 0000"), 5);
        Kit.due("4: DAMP then", x.count(8), 7);
        Kit.due("4: LIMIT then", x.count(7), 0);
        Kit.due("4: fourteen LINES", Kit.shop(x, Kit.times(14, "damp 1")), 6);
        Kit.due("4: SORTS", "" + x.part(0, 0) + x.part(1, 0), "01");
        Kit.due("4: a joint", Kit.shop(x, "part joint edge 0 wear 0;tool 2"), 7);
        Kit.due("4: its SORT", x.part(2, 0), 2);
        Kit.due("4: a TOOL without a head", x.tool(1, 1), -1);
    }

    private static void wrongTexts() {
        fault("part", 4);
        fault("part ", 5);
        fault("part   nose", 7);
        fault("part heads edge 1 wear 1", 5);
        fault("part head", 9);
        fault("part head wear 1", 10);
        fault("part head edge", 14);
        fault("part head edge x", 15);
        fault("part head edge 1", 16);
        fault("part head edge 1 wear", 21);
        fault("part nailed edge 1 wear 1", 5);
        fault("partz head edge 1 wear 1", 0);
        fault("part head edge 1 wear 1zebra", 23);
        fault("damp", 4);
        fault("need", 4);
        fault("part head edge 10", 15);
        fault("part head edge 00001", 15);
        fault("part head edge 1 edge 1", 17);
        fault("part head edge 1 wear 100", 22);
        fault("part head edge 1 wear 1x", 23);
        fault("part head edge 1 wear 1 1", 24);
        fault("part headedge 1 wear 1", 5);
        fault("parthead edge 1 wear 1", 0);
        fault("court", 0);
        fault("  Part", 2);
        fault("5", 0);
        fault(";", 0);
        fault("damp 1;", 7);
        fault("damp 1;  ", 9);
        fault("damp 1;;damp 1", 7);
        fault("damp 1 damp 1", 7);
        fault("damp 1,damp 1", 6);
        fault("damp 101", 5);
        fault("damp 1000", 5);
        fault("damp -1", 5);
        fault("limit 10000", 6);
        fault("limit", 5);
        fault("master 10", 7);
        fault("master;", 6);
        fault("nail 0", 5);
        fault("nail", 4);
        fault("nailed 0", 0);
        fault("need 32", 5);
        fault("need 32 0", 5);
        fault("need 5", 6);
        fault("need 0 0", 7);
        fault("tool", 4);
        fault("tool ;", 5);
        fault("tool 0", 5);
        fault(PART + ";tool 1", 29);
        fault(PART + ";tool 0 0", 31);
        fault(PART + ";tool 0;tool 0", 36);
        fault(PART + ";nail 0", 29);
        fault(PART + ";tool 0;nail 1", 36);
        fault(PART + ";tool 0;need 0 1", 38);
        fault(PART + ";tool 0;need 0 0 0", 40);
        fault(PART + ";" + PART + ";tool 0 1", 55);
        fault("part handle edge 1 wear 1;part head edge 1 wear 1;part joint edge 1 wear 1;"
                + "part joint edge 1 wear 1;tool 0 1 2 3", 111);
        fault("damp 1\t", 6);
        fault("damp 1;\u00e9", 7);
        fault("tool 0;" + PART, 5);
    }

    private static void tooMany() {
        fault(Kit.times(15, "damp 1"), 98);
        fault(Kit.times(14, "damp 1") + ";  damp 1", 100);
        fault(Kit.times(14, "damp 1") + ";", 98);
        ToolCourt x = Kit.court(Kit.times(14, PART), PART + ";" + PART);
        Kit.due("6: a 17th PART", Kit.shopFault(x, "damp 5; part nose"), 8);
        Kit.due("4: 16 PARTS", x.count(0), 16);
        Kit.due("4: six TOOLS", Kit.shop(x, "tool 0;tool 1;tool 2;tool 3;tool 4;tool 5"), 3);
        Kit.due("6: a 7th TOOL", Kit.shopFault(x, " tool 99"), 1);
        Kit.due("6: a 7th MASTER", Kit.shopFault(x, Kit.times(7, "master 1")), 54);
        Kit.due("4: six MASTERS", Kit.shop(x, Kit.times(6, "master 1")), 4);
        Kit.due("6: a MASTER more", Kit.shopFault(x, "master 99"), 0);
        Kit.due("4: the last PART in a TOOL", Kit.shopFault(x, "nail 16"), 5);
    }

    private static void wrongTextsLeaveNothing() {
        ToolCourt x = Kit.court(Kit.SHOP);
        x.days(1);
        Kit.due("6: a wrong text", Kit.shopFault(x, "part head edge 1 wear 1;tool 5 6;master 1;nail 0;damp 9;need 1 0;limit 3;x"), 73);
        Kit.due("4: the TAPE is used up all the same", x.end(1), false);
        Kit.due("46: acts are still remembered", x.count(13), 1);
        Kit.due("6: fault() again", x.fault(), 73);
        Kit.shop(x, "damp 3");
        Kit.due("6: fault() behind a right text", x.fault(), -1);
        Kit.due("46: acts are forgotten by a text", x.count(13), 0);
    }

    private static void twelveTexts() {
        ToolCourt x = new ToolCourt();
        for (int n = 1; n <= 12; n++) {
            Kit.due("4: text " + n, Kit.shop(x, "limit " + n), n);
        }
        x.days(1);
        Kit.feed(x, "limit 99x");
        Kit.refused("4: a wrong text is told first", Kit.ARGUMENT, x::shop);
        Kit.due("6: its wrong byte", x.fault(), 8);
        Kit.feed(x, "limit 99");
        Kit.refused("4: a 13th text", Kit.UNSUPPORTED, x::shop);
        Kit.due("6: it was read, and right", x.fault(), -1);
        Kit.due("4: the TAPE is used up", x.end(1), false);
        Kit.due("4: LIMIT stays", x.count(7), 12);
        Kit.due("4: texts", x.count(3), 12);
        Kit.due("46: acts stay", x.count(13), 1);
    }

    private static void needs() {
        ToolCourt x = Kit.court(Kit.SHOP, "need 0 0;need 31 0;need 2 0;need 2 0;need 1 1");
        Kit.due("8: needs", x.tool(0, 5), 1 | 4 | 1 << 31);
        Kit.due("8: needs of the other", x.tool(1, 5), 2);
        x.days(1);
        Kit.due("16: a DAY on", x.tool(0, 5), 2 | 1 << 30);
        Kit.due("16: a DAY on, of the other", x.tool(1, 5), 1);
        Kit.shop(x, "need 0 0");
        Kit.due("4: DAYS count from now on", x.tool(0, 5), 1 | 2 | 1 << 30);
        x.days(31);
        Kit.due("16: all are gone", x.tool(0, 5), 0);
    }
}
