/**
 * The bounds that the document names for the TAPE and both texts (promises 2 to 6 and 10): of each the last that is
 * taken and the first that is refused, what is empty and what is full.
 */
public final class TextEdgesTest {
    private static final String PART = "part head edge 0 wear 0";

    public static void main(String[] args) {
        fullTape();
        bytesOfTheTape();
        shopNumbers();
        lawNumbers();
        shopLines();
        lawLines();
        texts();
        partsToolsMasters();
        partsOfATool();
        partsThereByThen();
        needs();
        words();
        signs();
        blanks();
        longestTexts();
        deep();
        mixedDepth();
        moreMustCome();
        firstOfSeveralWrongThings();
        faultOfTheLatestText();
        sumsOfLines();
        factsAtTheirBounds();
        Kit.close();
    }

    private static void shop(String text, int due) {
        Kit.due("6: fault() of '" + text + "'", Kit.shopFault(new ToolCourt(), text), due);
    }

    private static void law(String text, int due) {
        Kit.due("6: fault() of '" + text + "'", Kit.lawFault(new ToolCourt(), text), due);
    }

    /** "NONE, and none come, if it would have more than 400": 380 have room, 381 have not. */
    private static void fullTape() {
        ToolCourt x = new ToolCourt();
        Kit.feed(x, " ".repeat(380));
        Kit.due("2: from 380 to 400", x.feed(0, 0, 0, 0, 0), 400);
        Kit.due("3: all 400", x.end(400), true);
        Kit.due("3: not 401", x.end(401), false);
        Kit.due("2: a full TAPE", x.feed(0, 0, 0, 0, 0), -1);
        Kit.due("2: none came", x.end(400) && !x.end(401), true);
        x.end(381);
        Kit.due("2: from 381", x.feed(0, 0, 0, 0, 0), -1);
        Kit.due("2: none of the twenty came", x.end(382), false);
        Kit.due("2: but the 381 are there", x.end(381), true);
        ToolCourt y = new ToolCourt();
        Kit.feed(y, " ".repeat(381) + "limit 7");
        Kit.due("2: what was refused changed no byte", y.feed(-1, -1, -1, -1, -1) + y.shop(), 0);
        Kit.due("4: the text that was there", y.count(7), 7);
    }

    /** "of each number the highest first", bytes above 127 too; what end() cuts off is gone. */
    private static void bytesOfTheTape() {
        ToolCourt x = Kit.court(Kit.times(14, PART), PART + ";" + PART);
        x.shop();
        x.feed(0x00010203, 0x04050607, 0x08090a0b, 0x0c0d0e0f, 0x000f000f);
        Kit.due("2: sixteen PARTS, each a byte", x.together(false), 0);
        int[] places = {0x10000000, 0x00100000, 0x00001000, 0x00000010, 0x80000000, 0x00800000, 0x00008000, 0x00000080, -1};
        for (int number : places) {
            x.feed(0, number, 0, 0, 0);
            Kit.refused("2: the bytes of " + number, Kit.ARGUMENT, () -> x.together(false));
        }
        x.feed(0, 0, 0, 0, 16);
        Kit.refused("2: the last of the twenty", Kit.ARGUMENT, () -> x.together(false));
        x.feed(0, 0, 0, 0, 16);
        Kit.due("3: the last one is cut off", x.end(19), true);
        Kit.due("3: nineteen are left", x.together(false), 0);
        x.feed(0x6c696d69, 0x74203939, 0x20202020, 0x20202020, 0x20202020);
        x.end(7);
        x.feed(0x20202020, 0x20202020, 0x20202020, 0x20202020, 0x20202020);
        x.shop();
        Kit.due("3: 'limit 99' cut behind its first 9", x.count(7), 9);
    }

    /** Each number of THE SHOP: the least, the most, the most with zeros ahead; then one more, and one digit more. */
    private static void shopNumbers() {
        Object[][] numbers = {{"part head edge ", 9, " wear 0"}, {"part head edge 0 wear ", 99, ""}, {"master ", 9, ""},
            {"damp ", 100, ""}, {"limit ", 9999, ""}, {PART + ";tool 0;need ", 31, " 0"}, {PART + ";tool ", 0, ""},
            {PART + ";tool 0;nail ", 0, ""}, {PART + ";tool 0;need 0 ", 0, ""}, {PART + ";" + PART + ";tool ", 1, ""},
            {PART + ";tool 0;" + PART + ";tool 1;nail ", 1, ""}, {PART + ";tool 0;" + PART + ";tool 1;need 0 ", 1, ""}};
        for (Object[] number : numbers) {
            String ahead = (String) number[0];
            int most = (Integer) number[1];
            String behind = (String) number[2];
            shop(ahead + "0" + behind, -1);
            shop(ahead + "0000" + behind, -1);
            shop(ahead + most + behind, -1);
            shop(ahead + String.format("%04d", most) + behind, -1);
            shop(ahead + (most + 1) + behind, ahead.length());
            shop(ahead + "00000" + behind, ahead.length());
            shop(ahead + String.format("%05d", most) + behind, ahead.length());
            shop(ahead + "99999999999999999999" + behind, ahead.length());
            shop(ahead + "4294967296" + behind, ahead.length());
            shop(ahead + "-1" + behind, ahead.length());
            shop(ahead + "x" + behind, ahead.length());
        }
    }

    private static void lawNumbers() {
        for (String kind : new String[] {"answer ", "plead ", "heir ", "blunt "}) {
            int most = kind.equals("blunt ") ? 99 : 999;
            int at = kind.length();
            law(kind + "0", -1);
            law(kind + "000", -1);
            law(kind + most, -1);
            law(kind + String.format("%03d", most), -1);
            law(kind + (most + 1), at);
            law(kind + "0000", at);
            law(kind + "99999999999999999999", at);
            law(kind + "4294967296", at);
            law(kind + "-1", at);
            law(kind + "head", at);
        }
        for (String ahead : new String[] {"heir 1 if ", "heir 1 if edge < ", "heir 1 if edge > 1 + "}) {
            String behind = ahead.endsWith("if ") ? " < 1" : "";
            law(ahead + "0" + behind, -1);
            law(ahead + "999" + behind, -1);
            law(ahead + "1000" + behind, ahead.length());
            law(ahead + "0000" + behind, ahead.length());
            law(ahead + "-1" + behind, ahead.length());
        }
    }

    /** "LINE { ; LINE }, at most 14". */
    private static void shopLines() {
        ToolCourt x = new ToolCourt();
        Kit.due("4: one LINE", Kit.shop(x, "limit 1"), 1);
        Kit.due("4: fourteen LINES", Kit.shop(x, Kit.times(13, "limit 1") + ";limit 14"), 2);
        Kit.due("4: the fourteenth was read", x.count(7), 14);
        shop(Kit.times(15, "limit 1"), 14 * 8);
        shop(Kit.times(14, "limit 1") + ";  limit 1", 14 * 8 + 2);
        shop(Kit.times(14, "limit 1") + ";x", 14 * 8);
        shop(Kit.times(14, "limit 1") + "; ", 14 * 8 + 1);
        shop(Kit.times(13, "limit 1") + ";limit x;limit 1", 13 * 8 + 6);
    }

    /** "LINE { ; LINE }, at most 12". */
    private static void lawLines() {
        ToolCourt x = Kit.court(Kit.SHOP);
        Kit.due("5: one LINE", Kit.law(x, "heir 1"), 1);
        Kit.due("5: twelve LINES", Kit.law(x, Kit.times(11, "heir 1") + ";heir 5 if head"), 12);
        Kit.due("5: all twelve count", "" + x.rule(1, 2) + " " + x.rule(0, 2), "16 11");
        Kit.due("49: twelve LINES", x.count(4), 12);
        law(Kit.times(13, "heir 1"), 12 * 7);
        law(Kit.times(12, "heir 1") + ";  heir 1", 12 * 7 + 2);
        law(Kit.times(12, "heir 1") + "; ", 12 * 7 + 1);
        law(Kit.times(11, "heir 1") + ";heir x;heir 1", 11 * 7 + 5);
    }

    /** "texts (at most 12, one behind another)", one without a LINE too; wrong ones are none. */
    private static void texts() {
        ToolCourt x = new ToolCourt();
        for (int n = 1; n <= 12; n++) {
            Kit.shopFault(x, "limit " + n + ";");
            Kit.due("4: a wrong text is none", x.count(3), n - 1);
            Kit.due("4: text " + n, Kit.shop(x, n % 2 == 0 ? "" : "limit " + n), n);
        }
        Kit.due("4: the eleventh's LIMIT", x.count(7), 11);
        Kit.feed(x, "");
        Kit.refused("4: a 13th text without a LINE", Kit.UNSUPPORTED, x::shop);
        Kit.feed(x, "limit 5");
        Kit.refused("4: a 13th text", Kit.UNSUPPORTED, x::shop);
        Kit.due("4: it changed nothing", x.count(7), 11);
        Kit.due("5: THE LAW may still be told", Kit.law(x, "heir 1"), 1);
    }

    private static void partsToolsMasters() {
        ToolCourt x = Kit.court(Kit.times(14, PART));
        Kit.due("4: the 15th and 16th PART", Kit.shopFault(x, PART + ";" + PART), -1);
        Kit.due("4: sixteen", x.count(0), 16);
        Kit.due("6: a 17th PART", Kit.shopFault(x, PART), 0);
        Kit.due("6: a 17th PART, however it goes on", Kit.shopFault(x, "limit 3;part"), 8);
        Kit.due("4: the last PART by its number", Kit.shopFault(x, "tool 15"), -1);
        Kit.due("6: no PART 16", Kit.shopFault(x, "tool 16"), 5);
        ToolCourt z = Kit.court(Kit.times(14, PART));
        Kit.due("6: the 17th PART in one text", Kit.shopFault(z, PART + ";" + PART + ";" + PART), 48);
        Kit.due("4: none of its PARTS stay", z.count(0), 14);
        Kit.due("4: six TOOLS, six MASTERS", Kit.shopFault(z, "tool 0;tool 1;tool 2;tool 3;tool 4;tool 5;"
                + Kit.times(6, "master 9")), -1);
        Kit.due("6: a 7th TOOL", Kit.shopFault(z, "tool 6"), 0);
        Kit.due("6: a 7th TOOL, however it goes on", Kit.shopFault(z, "  tool"), 2);
        Kit.due("6: a 7th MASTER", Kit.shopFault(z, "master 0"), 0);
        Kit.due("6: a 7th MASTER, however it goes on", Kit.shopFault(z, "damp 5; master x"), 8);
        Kit.due("4: six TOOLS", z.count(1), 6);
        Kit.due("4: six MASTERS", z.count(2), 6);
        Kit.due("4: of the last TOOL", z.tool(5, 1), 5);
        Kit.due("4: of the last MASTER", z.master(5, false), 9);
        Kit.due("4: needs of the last TOOL", Kit.shopFault(z, "need 31 5;nail 5"), -1);
        Kit.due("6: a TOOL that is none", Kit.shopFault(z, "need 31 6"), 8);
    }

    /** "P { P }": SPARE ones, of unlike SORTS. */
    private static void partsOfATool() {
        String all = "part handle edge 0 wear 0;part head edge 0 wear 0;part joint edge 0 wear 0;part joint edge 0 wear 0;";
        for (String one : new String[] {"0", "1", "2", "2 1 0", "1 0 3", "0 2", "0000 0001 0002"}) {
            shop(all + "tool " + one, -1);
        }
        int at = all.length();
        shop(all + "tool", at + 4);
        shop(all + "tool 0 0", at + 7);
        shop(all + "tool 2 3", at + 7);
        shop(all + "tool 0 1 2 3", at + 11);
        shop(all + "tool 0 1 2 9", at + 11);
        shop(all + "tool 0 1;tool 1", at + 14);
        shop(all + "tool 0 1;tool 2 0", at + 16);
        shop(all + "tool 0 1;tool 2;tool 3", -1);
        shop(all + "tool 0 1 head", at + 9);
        ToolCourt x = Kit.court(all + "tool 2 1 0");
        Kit.due("4: each by its SORT", "" + x.tool(0, 0) + x.tool(0, 1) + x.tool(0, 2), "012");
        x.swap(0, 2, 3);
        Kit.due("4: one that is SPARE again", Kit.shopFault(x, "tool 2"), -1);
        Kit.due("6: one that is SPARE no more", Kit.shopFault(x, "tool 3"), 5);
    }

    /** "a PART that there is by then": told ahead in the same text, or in one before. */
    private static void partsThereByThen() {
        shop(PART + ";tool 0", -1);
        shop("tool 0;" + PART, 5);
        shop(PART + ";tool 1;" + PART, 29);
        shop(PART + ";nail 0;tool 0", 29);
        shop(PART + ";tool 0;nail 0;nail 0", -1);
        shop(PART + ";need 0 0;tool 0", 31);
        shop(PART + ";tool 0;need 0 0", -1);
        ToolCourt x = Kit.court(PART);
        Kit.due("4: a PART of the text before", Kit.shopFault(x, "tool 0;nail 0;need 5 0"), -1);
        x.nail(0, false);
        x.swap(0, 1, -1);
        Kit.due("6: nail of one that is SPARE again", Kit.shopFault(x, "nail 0"), 5);
    }

    private static void needs() {
        ToolCourt x = Kit.court(PART + ";tool 0;need 0 0;need 31 0;need 31 0;need 0 0");
        Kit.due("8: DAYS 0 and 31, told twice", x.tool(0, 5), 1 | 1 << 31);
        Kit.due("16: DAY 0 is gone", x.days(1) + x.tool(0, 5), 1 << 30);
        Kit.shop(x, "need 31 0;need 30 0");
        Kit.due("4: from the DAY as it is now on", x.tool(0, 5), 1 << 30 | 1 << 31);
        x.days(30);
        Kit.due("16: today, and tomorrow", x.tool(0, 5), 3);
        x.days(1);
        Kit.due("16: today", x.tool(0, 5), 1);
        x.days(1);
        Kit.due("16: none any more", x.tool(0, 5), 0);
    }

    /** "Words are as long as a to z go on": a word that only begins or ends like one is none. */
    private static void words() {
        String[] right = {PART, "master 1", "damp 1", "limit 1"};
        for (String line : right) {
            String word = line.substring(0, line.indexOf(' '));
            String rest = line.substring(line.indexOf(' '));
            shop(word + rest, -1);
            shop(word.substring(0, word.length() - 1) + rest, 0);
            shop(word + "s" + rest, 0);
            shop("x" + word + rest, 0);
            shop(word.substring(0, 1).toUpperCase() + word.substring(1) + rest, 0);
            shop(word.substring(0, word.length() - 1) + " " + word.substring(word.length() - 1) + rest, 0);
        }
        for (String sort : new String[] {"handle", "head", "joint"}) {
            shop("part " + sort + " edge 0 wear 0", -1);
            shop("part " + sort + "s edge 0 wear 0", 5);
            shop("part " + sort.substring(1) + " edge 0 wear 0", 5);
            law("heir 1 if " + sort, -1);
            law("heir 1 if " + sort + "s", 10);
        }
        for (String fact : new String[] {"edge", "wear", "guilt", "harm", "hard", "master", "day", "tool"}) {
            law("heir 1 if " + fact + " < 5", -1);
            law("heir 1 if 5 > " + fact, -1);
            law("heir 1 if " + fact + "x < 5", 10);
            law("heir 1 if " + fact.substring(0, fact.length() - 1) + " < 5", 10);
        }
        for (String other : new String[] {"sort", "limit", "damp", "need", "part", "nail", "answer", "if", "bench"}) {
            law("heir 1 if " + other + " < 5", 10);
        }
        for (String kind : new String[] {"answers 1", "answe 1", "pleads 1", "heirs 1", "blunts 1", "head 1", "need 0 0"}) {
            law(kind, 0);
        }
    }

    /** The neighbours of a to z and of 0 to 9, and bytes that no sign is. */
    private static void signs() {
        for (int sign : new int[] {0, 1, 9, 10, 13, 31, 33, '`', '{', '/', ':', '@', '[', '_', 127, 128, 160, 255}) {
            shop("limit 1" + (char) sign, 7);
            shop((char) sign + "limit 1", 0);
            shop("limit" + (char) sign + "1", 5);
            shop("damp 1;" + (char) sign, 7);
            law("heir 1" + (char) sign, 6);
            law("heir 1 if head" + (char) sign, 14);
            law("heir 1 if " + (char) sign + "head", 10);
        }
        for (char sign : "()<>+".toCharArray()) {
            shop("limit 1" + sign, 7);
            law("heir 1" + sign, 6);
        }
    }

    /** "between all there may be blanks (32), also ahead and behind". */
    private static void blanks() {
        ToolCourt x = new ToolCourt();
        Kit.due("4: ahead and behind", Kit.shopFault(x, "   limit   8   ;   damp   9   "), -1);
        Kit.due("4: what it tells", "" + x.count(7) + x.count(8), "89");
        Kit.due("4: none at all", Kit.shopFault(x, "limit5;damp6;part head edge7wear8;tool0"), -1);
        Kit.due("4: what that tells", "" + x.count(7) + x.count(8) + x.part(0, 1) + x.part(0, 2), "5678");
        Kit.due("5: many", Kit.lawFault(x, "  heir  5  if  (  edge  +  1  >  7  and  not  nailed  )  "), -1);
        Kit.due("10: what that tells", x.rule(0, 2), 5);
        Kit.due("5: none at all", Kit.lawFault(x, "heir6if(edge+1>7and not nailed)"), -1);
        Kit.due("10: what that tells", x.rule(0, 2), 6);
        // No blank may stand within a word or a number.
        Kit.due("6: in a number", Kit.shopFault(x, "limit 1 2"), 8);
        Kit.due("6: between number and number of a need", Kit.shopFault(x, "need 10"), 7);
        Kit.due("6: in a word", Kit.lawFault(x, "he ir 5"), 0);
        for (String none : new String[] {"", " ", " ".repeat(400)}) {
            ToolCourt y = Kit.court(PART);
            Kit.due("4: no LINE in " + none.length() + " blanks", Kit.shopFault(y, none) + y.count(3), 1);
            Kit.due("5: no LINE in " + none.length() + " blanks", Kit.lawFault(y, none) + y.count(4), -1);
        }
    }

    /** The TAPE's last byte is read, and as many things as it can hold. */
    private static void longestTexts() {
        ToolCourt x = new ToolCourt();
        Kit.due("4: 400 bytes", Kit.shopFault(x, " ".repeat(392) + "limit 42"), -1);
        Kit.due("4: the last one is a digit of it", x.count(7), 42);
        Kit.due("6: the text's length", Kit.shopFault(x, " ".repeat(395) + "limit"), 400);
        Kit.due("6: the last byte", Kit.shopFault(x, " ".repeat(392) + "limit 1;"), 400);
        Kit.due("6: the last byte is wrong", Kit.shopFault(x, " ".repeat(392) + "limit 1x"), 399);
        Kit.due("6: 400 things", Kit.shopFault(x, ";".repeat(400)), 0);
        Kit.due("6: 400 things of a law", Kit.lawFault(x, "(".repeat(400)), 0);
        ToolCourt y = Kit.court("part head edge 9 wear 0");
        String sum = "heir 5 if " + "1+".repeat(192) + "1";
        Kit.due("5: a sum of 193", Kit.lawFault(y, sum + ">192"), -1);
        Kit.due("10: 193 is above 192", y.rule(0, 2), 5);
        Kit.lawFault(y, sum + ">193");
        Kit.due("10: 193 is not above 193", y.rule(0, 2), 0);
        Kit.lawFault(y, "heir 5 if 1<2" + " or 1<2".repeat(55));
        Kit.due("10: 56 ATOMS", y.rule(0, 2), 5);
        Kit.lawFault(y, "heir 5 if 1<2" + " and 1<2".repeat(47) + " and 1>1");
        Kit.due("10: the last of 49 ATOMS does not hold", y.rule(0, 2), 0);
    }

    /** "( and not within one another at most 6 deep"; "the ( or not that is a 7th one deep". */
    private static void deep() {
        for (int n = 1; n <= 8; n++) {
            String nots = "heir 1 if " + "not ".repeat(n) + "head";
            law(nots, n <= 6 ? -1 : 10 + 4 * 6);
            String brackets = "heir 1 if " + "(".repeat(n) + "head" + ")".repeat(n);
            law(brackets, n <= 6 ? -1 : 10 + 6);
            String both = "heir 1 if " + "not(".repeat(n) + "head" + ")".repeat(n);
            law(both, n <= 3 ? -1 : 10 + 4 * 3);
        }
        law("heir 1 if ((((((not head))))))", 16);
        law("heir 1 if not not not not not not (head)", 34);
        law("heir 1 if not not not not not (head)", -1);
        law("heir 1 if (((((not head)))))", -1);
    }

    /** What has ended does not count: the next one is as deep as what it stands in. */
    private static void mixedDepth() {
        law("heir 1 if not not not not not not head and not not not not not not head", -1);
        law("heir 1 if not not not not not not head and not not not not not not not head", 67);
        law("heir 1 if ((((((head)))))) or ((((((head))))))", -1);
        law("heir 1 if ((((((head)))))) or (((((((head)))))))", 36);
        law("heir 1 if (((((not head or not head)))))", -1);
        law("heir 1 if (((((not head or not (head))))))", 31);
        law("heir 1 if not (not (head) and not (not not head))", -1);
        law("heir 1 if not (not (head) and not (not not not head))", 43);
        law("heir 1 if not not not not not not 1 < 2 and not not not not not not 1 > 2", -1);
        law("heir 1 if ((((((1 < 2 and 1 < 2))))) and (((((1 < 2))))))", -1);
        law("heir 1 if ((((((1 < 2 and 1 < 2))))) and ((((((1 < 2)))))))", 46);
        law("heir 1 if ((((((head))))));heir 1 if not not not not not not not head", 61);
        ToolCourt x = Kit.court(Kit.SHOP);
        Kit.law(x, "heir 1 if not not not not not not head;heir 2 if not not not not not head;heir 4 if ((((((head))))))");
        Kit.due("10: of a head", x.rule(1, 2), 5);
        Kit.due("10: of a handle", x.rule(0, 2), 2);
    }

    /** "or the text's length, if more must come": behind each thing of each LINE. */
    private static void moreMustCome() {
        String[] lines = {"part|joint|edge|7|wear|7", "tool|7", "master|7", "nail|7", "damp|7", "need|7|7", "limit|7"};
        for (String line : lines) {
            String[] things = line.split("\\|");
            StringBuilder text = new StringBuilder("limit 1;");
            shop(text.toString(), text.length());
            for (int i = 0; i + 1 < things.length; i++) {
                text.append(i == 0 ? "" : " ").append(things[i]);
                shop(text.toString(), text.length());
                shop(text + "  ", text.length() + 2);
                shop(text + ";", text.length());
            }
        }
        for (String line : new String[] {"nail", "tool", "need", "need 0", "master", "limit", "damp", "part", "part head edge"}) {
            String told = PART + ";" + PART + ";tool 0;need 1 0;nail 0;" + line;
            shop(told, told.length());
        }
        String[] things = {"heir", " 5 if", " (", " not", " edge +", " 1", " <", " 2 +", " wear", " and", " head", " or", " nailed"};
        StringBuilder text = new StringBuilder("plead 1;");
        law(text.toString(), text.length());
        for (String thing : things) {
            text.append(thing);
            law(text.toString(), text.length());
            law(text + "  ", text.length() + 2);
            law(text + ";", text.length());
        }
        law(text + ")", -1);
    }

    private static void firstOfSeveralWrongThings() {
        shop("limit 10000;x", 6);
        shop("limit 1;x;limit 10000", 8);
        shop("part nose edge 10 wear 100", 5);
        shop("part head edge 10 wear 100", 15);
        shop("need 32 9", 5);
        shop("tool 0 0", 5);
        law("heir 1000 if x", 5);
        law("heir 1 if x < 1000", 10);
        law("blunt 100;heir 1000", 6);
    }

    /** "The first wrong byte of the latest text that was read; NONE without one, and ahead of any." */
    private static void faultOfTheLatestText() {
        ToolCourt x = new ToolCourt();
        Kit.due("6: ahead of any", x.fault(), -1);
        Kit.shopFault(x, "limit x");
        Kit.due("6: of a wrong text of THE SHOP", x.fault(), 6);
        Kit.law(x, "heir 1");
        Kit.due("6: none of a right text of THE LAW", x.fault(), -1);
        Kit.lawFault(x, "heir x");
        Kit.due("6: of a wrong text of THE LAW", x.fault(), 5);
        x.image();
        x.days(1);
        x.undo();
        x.back();
        x.together(false);
        Kit.due("6: it stays till the next text", x.fault(), 5);
        Kit.shop(x, "");
        Kit.due("6: none of a text without LINES", x.fault(), -1);
        Kit.shopFault(x, "x");
        Kit.due("6: byte 0", x.fault(), 0);
        Kit.law(x, "");
        Kit.due("6: none of a law without LINES", x.fault(), -1);
    }

    /** "the sums of N of such LINES that hold, 100 at most; BLUNTS: likewise, 99 at most". */
    private static void sumsOfLines() {
        ToolCourt x = Kit.court(Kit.SHOP);
        String[] kinds = {"answer", "plead", "heir", "blunt"};
        for (int what = 0; what < kinds.length; what++) {
            int most = what == 3 ? 99 : 100;
            for (int sum = most - 2; sum <= most + 2; sum++) {
                Kit.law(x, kinds[what] + " 50;" + kinds[what] + " " + (sum - 50) + ";" + kinds[what] + " 99 if 1 < 1");
                Kit.due("10: " + kinds[what] + " " + sum, x.rule(0, what), Math.min(most, sum));
                Kit.due("10: nothing else", x.rule(0, (what + 1) % 4), 0);
            }
            Kit.law(x, kinds[what] + " 0");
            Kit.due("10: " + kinds[what] + " 0", x.rule(1, what), 0);
        }
        Kit.law(x, "answer 999;plead 999;heir 999;" + Kit.times(3, "blunt 99"));
        Kit.due("10: the most of all", "" + x.rule(0, 0) + " " + x.rule(0, 1) + " " + x.rule(0, 2) + " " + x.rule(0, 3), "100 100 100 99");
    }

    private static int holds(ToolCourt x, int part, String condition) {
        Kit.law(x, "heir 1 if " + condition);
        return x.rule(part, 2);
    }

    /** Each fact against the number that it is: neither below nor above it, but above one less and below one more. */
    private static void factsAtTheirBounds() {
        ToolCourt x = Kit.court("part handle edge 0 wear 0;part head edge 9 wear 99;part joint edge 4 wear 7;"
                + "tool 0;tool 2;tool 1;master 5;master 6");
        x.deed(2, 1, 999, 9);
        x.days(7);
        Object[][] facts = {{0, "edge", 0}, {1, "edge", 9}, {0, "wear", 0}, {1, "wear", 99}, {0, "guilt", 0}, {1, "guilt", 999},
            {0, "tool", 0}, {1, "tool", 2}, {2, "tool", 1}, {0, "day", 7}, {1, "harm", 0}, {1, "hard", 0}, {1, "master", 0}};
        for (Object[] fact : facts) {
            int part = (Integer) fact[0];
            String name = (String) fact[1];
            int value = (Integer) fact[2];
            Kit.due("10: " + name + " < " + value, holds(x, part, name + " < " + value), 0);
            Kit.due("10: " + name + " > " + value, holds(x, part, name + " > " + value), 0);
            Kit.due("10: " + name + " < " + value + " + 1", holds(x, part, name + " < " + value + " + 1"), 1);
            Kit.due("10: " + name + " + 1 > " + value, holds(x, part, name + " + 1 > " + value), 1);
        }
        x.swap(2, 1, -1);
        Kit.due("10: tool is 0 of a SPARE one", holds(x, 1, "tool < 1"), 1);
        Kit.law(x, "answer 100 if harm > 998 and hard > 8 and master > 0 and tool > 1");
        x.swap(2, 1, 1);
        Kit.due("39: HARM, HARD, MASTER, TOOL of the DEED", x.after(2, 1, 999, 9), 999 + 999);
        Kit.due("39: less HARM", x.after(2, 1, 998, 9), 999);
        Kit.due("39: less HARD", x.after(2, 1, 999, 8), 999);
        Kit.due("39: MASTER 0", x.after(2, 0, 999, 9), 999);
    }
}
