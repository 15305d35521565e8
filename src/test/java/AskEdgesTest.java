/**
 * The bounds that the document names for what is asked (promises 7 to 10, 17 to 41 and 49): just as much and one more,
 * ties, none and all, the ends of each number.
 */
public final class AskEdgesTest {
    private static final int MIN = Integer.MIN_VALUE;
    private static final int MAX = Integer.MAX_VALUE;
    /** Handles 0, 3, 6, heads 1, 4, 7, joints 2, 5, 8. */
    private static final String NINE = Kit.times(3, "part handle edge 0 wear 0;part head edge 0 wear 0;part joint edge 0 wear 0");
    private static final String SIX_HEADS = Kit.times(6, "part head edge 0 wear 0");

    public static void main(String[] args) {
        numbersFromZeroOn();
        share();
        guiltyAndSentence();
        culpritsOfAll();
        askTies();
        launderedAtLimit();
        firstOfTheWays();
        secondSpareOne();
        heirsOfTheOneThatGoes();
        noWay();
        guardEdges();
        wordEdges();
        wordOfSeveralParts();
        cleanEdges();
        exchangeAtLimit();
        leastSetOfSorts();
        allThreeSorts();
        withAndSure();
        strokesOfDays();
        harmedFromTo();
        cellOfNone();
        cellOf64();
        cellNeeds();
        cellFirstOrder();
        cellLastOrder();
        jointEdges();
        clockEdges();
        togetherEdges();
        heirTies();
        juryTies();
        alibiBenches();
        worstMasterTies();
        trialDays();
        spanSeeds();
        worstEdges();
        counts();
        Kit.close();
    }

    /** The last PART, TOOL, MASTER, DEED there can be. */
    private static void numbersFromZeroOn() {
        ToolCourt x = Kit.court(SIX_HEADS + ";" + Kit.times(6, "master 7"), SIX_HEADS + ";" + Kit.times(4, "part joint edge 8 wear 9"),
                "tool 0;tool 1;tool 2;tool 3;tool 4;tool 5 15");
        Kit.due("7: PART 15", x.part(15, 0) + " " + x.part(15, 1) + " " + x.part(15, 2) + " " + x.part(15, 6), "2 8 9 5");
        Kit.due("8: TOOL 5", x.tool(5, 0) + " " + x.tool(5, 1) + " " + x.tool(5, 2), "-1 5 15");
        Kit.due("9: MASTER 5", x.master(5, false), 7);
        Kit.due("10: PART 15", x.rule(15, 0) + " " + x.rule(15, 3), "0 0");
        x.deed(5, 5, 40, 0);
        Kit.due("42: PARTS as bits", x.truth(0, 6), 1 << 15 | 1 << 5);
        Kit.due("9: HARM of MASTER 5", x.master(5, true), 40);
        Kit.due("17: GUILTY", x.guilty(), 32);
        Kit.due("25: with PART 15", x.with(15), 1 << 15 | 1 << 5);
        Kit.due("26: strokes of PART 15", x.strokes(15, false), 1);
        Kit.due("36: pairs", x.pairs(5, 5), 1);
        Kit.due("49: SPARE", x.count(9), 0xffff & ~(1 << 15) & ~63);
        Kit.due("23: laundered by a SPARE head", x.clean() + " " + x.laundered(5, true), "32 64");
        Kit.due("41: all sixteen", x.sure(9), 0xffff);
        Kit.due("35: MASTER 5", x.worstMaster(), 5);
    }

    /** "in ten-thousandths, rounded down (0 of none, or SPARE)". */
    private static void share() {
        ToolCourt x = Kit.court(NINE, "tool 0 1 2;tool 3;master 0");
        Kit.due("7: 0 of none", x.part(0, 8) + x.part(3, 8), 0);
        Kit.law(x, "answer 1 if handle;answer 2 if head");
        x.deed(0, 0, 100, 0);
        Kit.due("7: 1 of 3, 2 of 3, 0 of 3", x.part(0, 8) + " " + x.part(1, 8) + " " + x.part(2, 8), "3333 6666 0");
        x.swap(0, 0, -1);
        Kit.due("7: all", x.part(1, 8), 10000);
        Kit.due("7: SPARE", x.part(0, 3) + " " + x.part(0, 8), "1 0");
        x.swap(1, 0, -1);
        x.swap(1, 0, 0);
        Kit.due("7: of the other TOOL", x.part(0, 8), 10000);
        x.serve(1, 1);
        Kit.due("7: of none again", x.part(0, 8), 0);
    }

    /** "TOOLS that ANSWER more than LIMIT"; "days of 10, rounded up". */
    private static void guiltyAndSentence() {
        for (int limit : new int[] {0, 1, 50, 998, 999, 9999}) {
            ToolCourt x = Kit.court(NINE, "tool 0 1 2;tool 3;tool 4;master 0;limit " + limit);
            Kit.due("17: 0 is not more than " + limit, x.guilty(), 0);
            for (int left = limit; left > 0; left -= Math.min(999, left)) {
                x.deed(0, 0, Math.min(999, left), 0);
            }
            Kit.due("17: LIMIT " + limit + " is not more", x.tool(0, 3) + " " + x.guilty(), limit + " 0");
            Kit.due("28: no SENTENCE is served", x.cell(-1), 0);
            x.deed(0, 0, 1, 0);
            Kit.due("17: one more than LIMIT " + limit, x.guilty(), 1);
            Kit.due("8: SENTENCE", x.tool(0, 4), (limit + 1 + 9) / 10);
        }
    }

    private static void culpritsOfAll() {
        ToolCourt x = Kit.court(SIX_HEADS.replace("edge 0 wear 0", "edge 9 wear 99"), "tool 0;tool 1;tool 2;tool 3;tool 4;tool 5");
        Kit.due("18: EDGE 9, GRADE 9", x.culprits(9, 9, 0), 63);
        Kit.due("18: EDGE 0, GRADE 0", x.culprits(0, 0, 0), 0);
        Kit.due("18: GRADE 8", x.culprits(9, 8, 0) + x.culprits(8, 9, 0), 0);
        x.swap(0, 1, -1);
        x.days(1);
        Kit.due("18: of six there one had none", x.culprits(9, 9, 0) + " " + x.culprits(9, 9, 1), "62 62");
        ToolCourt y = Kit.court("part handle edge 0 wear 0;tool 0");
        y.days(1);
        Kit.due("18: no head is no EDGE 0", y.culprits(0, 0, 0) + y.culprits(0, 0, 1), 0);
    }

    private static void ask(String name, String heads, int which, int many) {
        StringBuilder tools = new StringBuilder();
        for (int i = 0; i < heads.split(";").length; i++) {
            tools.append(i == 0 ? "" : ";").append("tool ").append(i);
        }
        ToolCourt x = Kit.court(heads, tools.toString());
        Kit.due("19: " + name, x.ask(false) + " " + x.ask(true), which + " " + many);
    }

    /** "which of both is fewer (0 EDGE, also at a tie; 1 GRADE); how many that are (0 without any)". */
    private static void askTies() {
        ToolCourt x = new ToolCourt();
        Kit.due("19: without TOOLS", x.ask(false) + " " + x.ask(true), "0 0");
        ask("without heads", "part handle edge 0 wear 0;part joint edge 5 wear 50", 0, 0);
        ask("one head", "part head edge 0 wear 0", 0, 1);
        ask("a tie of two", "part head edge 9 wear 99;part head edge 9 wear 90", 0, 2);
        ask("EDGE by one", "part head edge 9 wear 99;part head edge 8 wear 90", 0, 1);
        ask("GRADE by one", "part head edge 9 wear 99;part head edge 9 wear 89", 1, 1);
        ask("six alike", SIX_HEADS, 0, 6);
        ask("five of six EDGES", SIX_HEADS.replaceFirst("edge 0", "edge 1"), 0, 5);
        ask("five of six GRADES", SIX_HEADS.replaceFirst("wear 0", "wear 10"), 1, 5);
        ask("handles do not count", "part handle edge 3 wear 9;part head edge 3 wear 9;part head edge 4 wear 9", 0, 1);
        ToolCourt y = Kit.court("part head edge 3 wear 0;part head edge 3 wear 0;part head edge 4 wear 0;tool 0;tool 2");
        Kit.due("19: SPARE ones do not count", y.ask(false) + " " + y.ask(true), "0 1");
    }

    /** LIMIT at most; 0, if it does now. */
    private static void launderedAtLimit() {
        // The head has 60, the SPARE head 20; HEIRS take half: 20 and 30 are 50.
        ToolCourt x = Kit.court(NINE, "tool 0 1 2;tool 4;master 0;limit 60");
        Kit.law(x, "answer 100 if head");
        x.deed(0, 0, 60, 0);
        x.deed(1, 0, 20, 0);
        x.swap(1, 1, -1);
        Kit.law(x, "heir 50");
        Kit.due("20: it ANSWERS just LIMIT", x.laundered(0, false) + " " + x.laundered(0, true), "0 0");
        Kit.shop(x, "limit 59");
        Kit.due("20: by PART 4 it has 50, by PART 7 30", x.laundered(0, false) + " " + x.laundered(0, true), "1 16");
        Kit.shop(x, "limit 50");
        Kit.due("20: just LIMIT by PART 4", x.laundered(0, true), 16);
        Kit.shop(x, "limit 49");
        Kit.due("20: by PART 7 alone", x.laundered(0, true), 128);
        Kit.shop(x, "limit 30");
        Kit.due("20: just LIMIT by PART 7", x.laundered(0, true), 128);
        Kit.shop(x, "limit 29");
        Kit.due("20: none", x.laundered(0, false) + " " + x.laundered(0, true) + " " + x.guard(0) + " " + x.clean(), "-1 -1 0 0");
    }

    /** "no SWAP of the handle ahead of those by numbers; then of the head, then of the joint likewise". */
    private static void firstOfTheWays() {
        // Handle, head, joint have 10 each; of each SORT two are SPARE.
        ToolCourt x = Kit.court(NINE, "tool 0 1 2;master 0");
        Kit.law(x, "answer 10");
        x.deed(0, 0, 100, 0);
        int[][] due = {{30, 0, 0}, {29, 1, 1 << 5}, {20, 1, 1 << 5}, {19, 2, 1 << 4 | 1 << 5}, {10, 2, 1 << 4 | 1 << 5},
            {9, 3, 1 << 3 | 1 << 4 | 1 << 5}, {0, 3, 1 << 3 | 1 << 4 | 1 << 5}};
        for (int[] row : due) {
            Kit.shop(x, "limit " + row[0]);
            Kit.due("20: LIMIT " + row[0], x.laundered(0, false) + " " + x.laundered(0, true), row[1] + " " + row[2]);
        }
        Kit.shop(x, "limit 10;nail 2");
        Kit.due("20: the joint is NAILED", x.laundered(0, false) + " " + x.laundered(0, true), "2 " + (1 << 3 | 1 << 4));
        Kit.shop(x, "limit 20;nail 1");
        Kit.due("20: the head too", x.laundered(0, false) + " " + x.laundered(0, true), "1 " + (1 << 3));
        x.nail(2, false);
        x.nail(1, false);
        x.nail(0, true);
        Kit.due("20: the handle instead", x.laundered(0, false) + " " + x.laundered(0, true), "1 " + (1 << 5));
    }

    /** One SWAP is one, whichever SPARE PART comes: the first of each SORT has too much itself. */
    private static void secondSpareOne() {
        for (int sort = 0; sort < 3; sort++) {
            ToolCourt x = Kit.court(NINE, "tool 0 1 2;tool 3 4 5;master 0;limit 15");
            Kit.law(x, "answer 10 if " + new String[] {"handle", "head", "joint"}[sort]);
            x.deed(0, 0, 160, 0);
            x.deed(1, 0, 160, 0);
            Kit.law(x, "heir 0");
            x.swap(1, sort, -1);
            Kit.due("20: the second of SORT " + sort, x.laundered(0, false) + " " + x.laundered(0, true), "1 " + (1 << sort + 6));
            Kit.due("21: its SORT alone", x.guard(0), 1 << sort);
            Kit.due("23: it can be LAUNDERED", x.clean(), 1);
            x.nail(sort, true);
            Kit.due("23: NAILED", x.clean(), 0);
        }
    }

    /** HEIRS are asked of the PART that goes, in its TOOL, not of the SPARE one that comes. */
    private static void heirsOfTheOneThatGoes() {
        ToolCourt x = Kit.court("part head edge 1 wear 5;part head edge 2 wear 6;tool 0;master 0", "part handle edge 0 wear 0;tool 2;limit 3");
        x.swap(0, 1, -1);
        x.swap(1, 1, 0);
        x.deed(1, 0, 10, 0);
        Kit.law(x, "heir 100 if edge > 1 or tool < 1 or wear + guilt < 15");
        Kit.due("20: nothing goes over", x.laundered(1, false) + " " + x.laundered(1, true), "1 2");
        Kit.law(x, "heir 40 if edge < 2 and tool > 0 and wear + guilt > 15 and harm + hard + master < 1");
        Kit.due("20: 4 of 10 do", x.laundered(1, false), -1);
        Kit.due("12: as they go", x.swap(1, 1, 1), 4);
    }

    private static void noWay() {
        ToolCourt x = Kit.court("part handle edge 0 wear 0;part head edge 0 wear 0;part handle edge 0 wear 0;tool 1;master 0");
        x.deed(0, 0, 1, 0);
        Kit.due("20: no SPARE head; no handle is there", x.laundered(0, false) + " " + x.laundered(0, true), "-1 -1");
        Kit.due("21: none now", x.guard(0), 0);
        Kit.due("22: none by 0 HEIRS", x.word(0), 0);
        Kit.due("23: not to be LAUNDERED", x.clean() + " " + x.guilty(), "0 1");
        Kit.shop(x, "part head edge 0 wear 0");
        Kit.due("20: a SPARE head", x.laundered(0, false) + " " + x.laundered(0, true), "1 8");
        x.nail(1, true);
        Kit.due("20: NAILED", x.laundered(0, false) + " " + x.word(0), "-1 0");
    }

    /** "SORTS whose PART, if it were NAILED as well, makes LAUNDERED none (0, if it is none now, or 0)". */
    private static void guardEdges() {
        ToolCourt x = Kit.court(NINE, "tool 0 1 2;master 0");
        Kit.law(x, "answer 10;heir 50 if nailed");
        Kit.due("21: 0 now", x.guard(0), 0);
        x.deed(0, 0, 100, 0);
        int[][] due = {{30, 0}, {29, 0}, {20, 0}, {19, 0}, {10, 0}, {9, 7}, {0, 7}};
        for (int[] row : due) {
            Kit.shop(x, "limit " + row[0]);
            Kit.due("21: LIMIT " + row[0], x.guard(0), row[1]);
        }
        x.nail(0, true);
        Kit.due("21: none now", x.guard(0), 0);
        Kit.shop(x, "limit 10");
        Kit.due("21: head and joint are left", x.guard(0), 6);
        Kit.shop(x, "limit 20");
        Kit.due("21: head or joint", x.guard(0), 0);
        x.swap(0, 1, -1);
        Kit.due("21: it ANSWERS LIMIT now", x.guard(0), 0);
    }

    /** "the least HEIRS (0 to 100)"; none. */
    private static void wordEdges() {
        for (int guilt : new int[] {1, 2, 3, 10, 99, 100, 101, 150, 200, 999}) {
            ToolCourt x = Kit.court("part head edge 0 wear 0;part head edge 0 wear 0;tool 0;master 0");
            x.deed(0, 0, guilt, 0);
            for (int limit : new int[] {0, 1, 9, 99, 100, guilt - 1, guilt}) {
                Kit.law(x, "heir 77 if nailed");
                if (x.count(3) < 12) {
                    Kit.shop(x, "limit " + limit);
                    Kit.due("22: " + guilt + " and LIMIT " + limit, x.word(0), leastHeirs(guilt, limit));
                }
            }
        }
    }

    private static int leastHeirs(int guilt, int limit) {
        for (int heirs = 0; heirs <= 100; heirs++) {
            if (guilt > limit && guilt * heirs / 100 > limit) {
                return heirs;
            }
        }
        return -1;
    }

    private static void wordOfSeveralParts() {
        // 30, 50 and 70; all SPARE ones without GUILT: with HEIRS h all three swapped leave each h in a hundred.
        ToolCourt x = Kit.court(NINE, "tool 0 1 2;master 0;limit 75");
        Kit.law(x, "answer 30 if handle;answer 50 if head;answer 70 if joint;heir 100");
        x.deed(0, 0, 100, 0);
        Kit.due("22: 15, 25 and 35 are 75, 15, 26 and 36 more", x.word(0), 52);
        Kit.due("20: by THE LAW's none", x.laundered(0, false), -1);
        Kit.shop(x, "limit 149");
        Kit.due("22: all by 100", x.word(0), 100);
        Kit.shop(x, "limit 150");
        Kit.due("22: none, it is not GUILTY", x.word(0), -1);
    }

    private static void cleanEdges() {
        ToolCourt x = Kit.court(SIX_HEADS, "part head edge 0 wear 0;tool 0;tool 1;tool 2;tool 3;tool 4;tool 5;master 0;limit 5");
        Kit.due("23: none is GUILTY", x.clean(), 0);
        for (int tool = 0; tool < 6; tool++) {
            x.deed(tool, 0, tool % 2 == 0 ? 6 : 5, 0);
        }
        Kit.due("23: the GUILTY ones, each by itself", x.clean(), 21);
        x.nail(2, true);
        Kit.due("23: but a NAILED one", x.clean() + " " + x.guilty(), "17 21");
        x.swap(5, 1, 6);
        Kit.due("23: by PART 5, which has 5", x.clean(), 17);
        Kit.shop(x, "limit 4");
        Kit.due("23: PART 5 has more", x.clean(), 0);
    }

    /** "so that both ANSWER LIMIT at most"; "the fewest SORTS". */
    private static void exchangeAtLimit() {
        ToolCourt x = Kit.court(NINE, "tool 0 1 2;tool 3 4 5;master 0;limit 100");
        Kit.law(x, "answer 10 if handle;answer 20 if head;answer 70 if joint");
        x.deed(0, 0, 100, 0);
        Kit.due("24: 100 is LIMIT", x.exchange(0, 1, false) + " " + x.exchange(0, 1, true), "0 0");
        Kit.shop(x, "limit 99");
        Kit.due("24: 90 and 10", x.exchange(0, 1, false) + " " + x.exchange(0, 1, true), "1 1");
        Kit.shop(x, "limit 89");
        Kit.due("24: 80 and 20", x.exchange(0, 1, false) + " " + x.exchange(0, 1, true), "1 2");
        Kit.shop(x, "limit 79");
        Kit.due("24: 30 and 70", x.exchange(0, 1, false) + " " + x.exchange(0, 1, true), "1 4");
        Kit.shop(x, "limit 70");
        Kit.due("24: just 70", x.exchange(0, 1, false) + " " + x.exchange(1, 0, true), "1 4");
        Kit.shop(x, "limit 69");
        Kit.due("24: none", x.exchange(0, 1, false) + " " + x.exchange(0, 1, true), "-1 -1");
        Kit.shop(x, "limit 79;nail 5");
        Kit.due("24: the joint is NAILED: 70 and 30", x.exchange(0, 1, false) + " " + x.exchange(0, 1, true), "2 3");
        x.nail(4, true);
        Kit.due("24: head and joint are", x.exchange(0, 1, false), -1);
        x.nail(4, false);
        x.swap(1, 0, -1);
        Kit.due("24: no handle is there", x.exchange(0, 1, false), -1);
    }

    private static void leastSetOfSorts() {
        ToolCourt x = Kit.court(NINE, "tool 0 1 2;tool 3 4 5;tool 6 7 8;master 0;limit 20");
        Kit.law(x, "answer 10");
        x.deed(0, 0, 100, 0);
        Kit.due("24: the handle is the least of three", x.exchange(0, 1, true), 1);
        x.nail(0, true);
        Kit.due("24: the head of two", x.exchange(0, 1, true), 2);
        x.nail(1, true);
        Kit.due("24: the joint", x.exchange(0, 1, true), 4);
        x.nail(0, false);
        x.nail(1, false);
        Kit.shop(x, "limit 15");
        Kit.due("24: 20 and 10, 10 and 20", x.exchange(0, 1, true), -1);
        Kit.due("24: none are told of either", x.exchange(1, 2, true), 0);
    }

    /** Of what the first TOOL's PARTS have half goes, of the other's nothing: each SORT brings 5 over. */
    private static void allThreeSorts() {
        ToolCourt x = Kit.court(NINE, "tool 0 1 2;tool 3 4 5;master 0");
        Kit.law(x, "answer 10");
        x.deed(0, 0, 100, 0);
        Kit.law(x, "heir 50 if tool < 1;heir 100 if tool > 0");
        int[][] due = {{30, 0, 0}, {29, 1, 1}, {25, 1, 1}, {24, 2, 3}, {20, 2, 3}, {19, 3, 7}, {15, 3, 7}, {14, -1, -1}};
        for (int[] row : due) {
            Kit.shop(x, "limit " + row[0]);
            Kit.due("24: LIMIT " + row[0], x.exchange(0, 1, false) + " " + x.exchange(0, 1, true), row[1] + " " + row[2]);
        }
    }

    /** WITH: "0 without such DEEDS"; SURE: "without such DEEDS all that there are". */
    private static void withAndSure() {
        ToolCourt x = Kit.court(NINE, "tool 0 1 2;tool 3 4;master 0");
        Kit.due("25: without DEEDS", x.with(0) + x.with(8), 0);
        Kit.due("41: without DEEDS", x.sure(0) + " " + x.sure(9), "511 511");
        Kit.due("41: in an empty shop", new ToolCourt().sure(0), 0);
        x.deed(0, 0, 1, 0);
        Kit.due("25: all of the one", x.with(0) + " " + x.with(3), "7 0");
        Kit.due("41: of EDGE 0, of EDGE 1", x.sure(0) + " " + x.sure(1), "7 511");
        x.deed(1, 0, 1, 0);
        Kit.due("41: none were in each", x.sure(0), 0);
        Kit.due("25: of the other", x.with(4), 24);
        Kit.shop(x, "part head edge 9 wear 0");
        Kit.due("41: that there are, a later one too", x.sure(9), 1023);
        x.undo();
        x.swap(0, 1, 9);
        x.deed(0, 0, 1, 0);
        Kit.due("25: without the head", x.with(0) + " " + x.with(9), "5 517");
        Kit.due("41: EDGE 9", x.sure(9), 517);
        x.undo();
        Kit.due("41: undone", x.sure(9) + " " + x.with(9), "1023 0");
    }

    private static void strokesOfDays() {
        ToolCourt x = Kit.court(NINE, "tool 0 1 2;tool 3 4;master 0");
        Kit.due("26: none", x.strokes(1, false) + x.strokes(1, true), 0);
        x.deed(0, 0, 1, 0);
        Kit.due("26: one", x.strokes(1, false) + " " + x.strokes(1, true), "1 1");
        x.days(1);
        x.deed(0, 0, 1, 0);
        Kit.due("26: one a DAY", x.strokes(1, false) + " " + x.strokes(1, true), "2 1");
        x.deed(1, 0, 1, 0);
        x.deed(0, 0, 1, 0);
        Kit.due("26: two on one DAY, with another between", x.strokes(1, false) + " " + x.strokes(1, true), "3 2");
        x.days(1);
        x.deed(0, 0, 1, 0);
        Kit.due("26: two are still the most", x.strokes(1, false) + " " + x.strokes(1, true), "4 2");
        x.swap(0, 1, -1);
        Kit.due("26: SPARE now", x.strokes(1, false) + " " + x.strokes(1, true), "4 2");
    }

    /** "from a DAY to another one"; "the first DAY is below 0, or above the other one". */
    private static void harmedFromTo() {
        ToolCourt x = Kit.court(NINE, "tool 0 1;master 0");
        Kit.due("27: none", x.harmed(0, 0) + x.harmed(0, MAX) + x.harmed(MAX, MAX), 0);
        for (int day = 0; day < 4; day++) {
            x.deed(0, 0, 1 << day, 0);
            x.days(1);
        }
        for (int from = 0; from <= 5; from++) {
            for (int to = from; to <= 5; to++) {
                int harm = 0;
                for (int day = from; day <= Math.min(3, to); day++) {
                    harm += 1 << day;
                }
                Kit.due("27: harmed(" + from + ", " + to + ")", x.harmed(from, to), harm);
            }
        }
        Kit.due("27: to MAX", x.harmed(3, MAX), 8);
        Kit.refused("27: from -1", Kit.ARGUMENT, () -> x.harmed(-1, MAX));
        Kit.refused("27: from one above", Kit.ARGUMENT, () -> x.harmed(3, 2));
    }

    /** "0 without GUILTY ones"; "the k-th TOOL; none". */
    private static void cellOfNone() {
        ToolCourt x = Kit.court(NINE, "tool 0 1;master 0;limit 10");
        x.deed(0, 0, 10, 0);
        for (int k : new int[] {0, 1, 5, 6, -2, MIN, MAX}) {
            Kit.due("28: none, cell(" + k + ")", x.cell(k), -1);
        }
        Kit.due("28: 0 days", x.cell(-1), 0);
        x.deed(0, 0, 1, 0);
        Kit.due("28: 11 are two days", x.cell(-1) + " " + x.cell(0), "2 0");
        for (int k : new int[] {1, 5, 6, -2, MIN, MAX}) {
            Kit.due("28: one, cell(" + k + ")", x.cell(k), -1);
        }
    }

    /** "-3, if more than 64, for each k, too". */
    private static void cellOf64() {
        ToolCourt x = Kit.court(NINE, "tool 0 1;tool 3 4;tool 7;master 0");
        x.deed(0, 0, 300, 0);
        x.deed(1, 0, 331, 0);
        Kit.due("28: 30 and 34", x.cell(-1) + " " + x.cell(0) + x.cell(1) + x.cell(2), "64 01-1");
        x.deed(2, 0, 1, 0);
        for (int k : new int[] {-1, 0, 1, 2, 3, -2, MIN, MAX}) {
            Kit.due("28: 65, cell(" + k + ")", x.cell(k), -3);
        }
        x.undo();
        Kit.shop(x, "need 0 1");
        Kit.due("28: 1 goes later", x.cell(-1) + " " + x.cell(0), "64 0");
        Kit.shop(x, "need 0 0");
        Kit.due("28: both wait: 65", x.cell(-1) + " " + x.cell(0), "-3 -3");
        x.serve(1, 1);
        Kit.due("28: 64 again", x.cell(-1) + " " + x.cell(0), "64 0");
        ToolCourt y = Kit.court(SIX_HEADS, "tool 0;tool 1;tool 2;tool 3;tool 4;tool 5;master 0");
        for (int i = 0; i < 60; i++) {
            y.deed(i % 6, 0, 999, 0);
        }
        Kit.due("28: the most that can be", y.cell(-1), -3);
    }

    /** "(not on a DAY on which it is needed: then nobody does)"; DAYS 0 to 31. */
    private static void cellNeeds() {
        ToolCourt x = Kit.court(NINE, "tool 0 1;tool 3 4;master 0");
        x.deed(0, 0, 1, 0);
        for (int day = 0; day < 32; day += 4) {
            Kit.due("28: needed on " + day + " DAYS", x.cell(-1), day + 1);
            Kit.shop(x, "need " + day + " 0;need " + (day + 1) + " 0;need " + (day + 2) + " 0;need " + (day + 3) + " 0");
        }
        Kit.due("28: needed on all 32", x.cell(-1), 33);
        x.days(1);
        Kit.due("28: a DAY later", x.cell(-1), 32);
        x.deed(1, 0, 10, 0);
        Kit.due("28: the other one goes first", x.cell(-1) + " " + x.cell(0), "32 1");
        x.deed(1, 0, 310, 0);
        Kit.due("28: for 32 days", x.cell(-1) + " " + x.cell(0), "33 1");
    }

    /** "the k-th TOOL in the first such order (by numbers)". */
    private static void cellFirstOrder() {
        ToolCourt x = Kit.court(SIX_HEADS, "tool 0;tool 1;tool 2;tool 3;tool 4;tool 5;master 0;limit 5");
        for (int tool : new int[] {1, 2, 4, 5}) {
            x.deed(tool, 0, 10, 0);
        }
        Kit.due("28: the GUILTY ones by numbers", turns(x), "4: 1 2 4 5 -1");
        Kit.shop(x, "need 0 1;need 1 1;need 2 1");
        Kit.due("28: 1 is last", turns(x), "4: 2 4 5 1 -1");
        Kit.shop(x, "need 3 1");
        Kit.due("28: one DAY is lost by 1 anyway", turns(x), "5: 2 4 5 1 -1");
        Kit.shop(x, "need 4 1;need 5 1;need 6 1");
        Kit.due("28: 1 waits for DAY 7", turns(x), "8: 2 4 5 1 -1");
        x.days(4);
        Kit.due("28: from today on", turns(x), "4: 2 4 5 1 -1");
        x.days(1);
        Kit.due("28: from today on, a DAY later", turns(x), "4: 2 4 1 5 -1");
    }

    /** Of the 720 orders of six TOOLS the last one alone lasts no DAY longer than the work in it. */
    private static void cellLastOrder() {
        ToolCourt x = Kit.court(SIX_HEADS, "tool 0;tool 1;tool 2;tool 3;tool 4;tool 5;master 0");
        for (int tool = 0; tool < 6; tool++) {
            x.deed(tool, 0, 1, 0);
        }
        for (int tool = 0; tool < 5; tool++) {
            StringBuilder needs = new StringBuilder("need 0 " + tool);
            for (int day = 1; day < 5 - tool; day++) {
                needs.append(";need ").append(day).append(' ').append(tool);
            }
            Kit.shop(x, needs.toString());
        }
        Kit.due("28: by numbers from above", turns(x) + " " + x.cell(5), "6: 5 4 3 2 1 0");
        Kit.shop(x, "need 0 5");
        Kit.due("28: one DAY is lost by 4 and by 5", turns(x), "7: 4 3 2 1 0");
    }

    private static String turns(ToolCourt x) {
        StringBuilder all = new StringBuilder(x.cell(-1) + ":");
        for (int k = 0; k < 5; k++) {
            all.append(' ').append(x.cell(k));
        }
        return all.toString();
    }

    private static void jointEdges() {
        ToolCourt x = Kit.court(NINE, "tool 0 1 2;tool 3;tool 6;master 0");
        Kit.due("29: without DEEDS", x.joint(0, 1), 0);
        x.deed(0, 0, 7, 0);
        Kit.due("29: in one", x.joint(0, 1), 0);
        x.swap(0, 1, -1);
        x.swap(1, 1, 1);
        x.deed(1, 0, 5, 0);
        Kit.due("29: in both", x.joint(0, 1) + " " + x.joint(1, 0), "12 12");
        Kit.due("29: not in the third", x.joint(0, 2) + x.joint(2, 1), 0);
        x.serve(1, 2);
        Kit.due("29: served", x.joint(0, 1), 0);
    }

    private static void clockEdges() {
        ToolCourt x = Kit.court("part head edge 0 wear 0;part head edge 0 wear 99;part handle edge 0 wear 0;tool 0;tool 1 2;master 0");
        Kit.due("30: none", x.clock(0, 0, false) + " " + x.clock(0, 0, true), "-1 -1");
        x.deed(0, 0, 1, 9);
        x.deed(1, 0, 1, 9);
        Kit.due("30: GRADE 0", x.clock(0, 0, false) + " " + x.clock(0, 0, true), "0 0");
        Kit.due("30: GRADE 9", x.clock(1, 9, false) + " " + x.clock(1, 9, true), "0 0");
        Kit.due("30: the other's", x.clock(0, 9, false) + " " + x.clock(1, 0, true), "-1 -1");
        x.days(5);
        x.deed(0, 0, 1, 0);
        x.deed(1, 0, 1, 0);
        Kit.due("30: GRADE 1 now", x.clock(0, 1, false) + " " + x.clock(0, 1, true), "5 5");
        Kit.due("30: first and last", x.clock(1, 9, false) + " " + x.clock(1, 9, true), "0 5");
        Kit.refused("30: a handle", Kit.ARGUMENT, () -> x.clock(2, 0, true));
    }

    /** "(twice is as once)"; none may be told; "the DAY of the first one; none". */
    private static void togetherEdges() {
        ToolCourt x = Kit.court(NINE, "tool 0 1 2;tool 3 4 5;master 0");
        x.days(3);
        Kit.due("31: none are told, no DEEDS", together(x, "", false) + " " + together(x, "", true), "0 -1");
        x.deed(0, 0, 1, 0);
        x.days(1);
        x.deed(1, 0, 1, 0);
        x.deed(0, 0, 1, 0);
        Kit.due("31: none are told: all DEEDS", together(x, "", false) + " " + together(x, "", true), "3 3");
        Kit.due("31: one", together(x, "\1", false) + " " + together(x, "\1", true), "2 3");
        Kit.due("31: all of it", together(x, "\0\1\2", false), 2);
        Kit.due("31: one of another", together(x, "\0\1\3", false) + " " + together(x, "\0\1\3", true), "0 -1");
        Kit.due("31: 400 times", together(x, "\4".repeat(400), false) + " " + together(x, "\4".repeat(400), true), "1 4");
        Kit.due("31: one of 400", together(x, "\4".repeat(399) + "\0", false), 0);
        Kit.due("31: the last PART", together(x, "\10", false), 0);
        Kit.feed(x, "\11");
        Kit.refused("31: one more", Kit.ARGUMENT, () -> x.together(false));
        Kit.feed(x, "\0\1\2\0\1\2\0\11");
        Kit.refused("31: the last byte", Kit.ARGUMENT, () -> x.together(true));
        Kit.due("31: the TAPE is used up", x.end(1), false);
    }

    private static int together(ToolCourt x, String parts, boolean first) {
        Kit.feed(x, parts);
        int answer = x.together(first);
        Kit.due("31: the TAPE is used up", x.end(1), false);
        return answer;
    }

    private static void heirTies() {
        ToolCourt x = Kit.court(SIX_HEADS, "tool 0;tool 1;tool 2;master 0");
        Kit.due("32: none", x.heir(), -1);
        x.deed(0, 0, 10, 0);
        x.deed(1, 0, 9, 0);
        x.deed(2, 0, 9, 0);
        x.swap(0, 1, -1);
        x.swap(0, 1, 0);
        Kit.due("32: nothing came over", x.heir(), -1);
        Kit.law(x, "heir 100");
        x.swap(1, 1, 5);
        Kit.due("32: 9 of PART 5", x.heir(), 5);
        x.swap(2, 1, 4);
        Kit.due("32: 9 of PART 4, the least", x.heir(), 4);
        x.swap(0, 1, 3);
        Kit.due("32: 10 of PART 3", x.heir(), 3);
        Kit.law(x, "heir 12");
        x.swap(1, 1, 2);
        Kit.due("32: 1 of PART 2", x.heir() + " " + x.part(2, 7), "3 1");
        x.undo();
        x.swap(2, 1, 2);
        Kit.due("32: undone", x.part(2, 7), 1);
    }

    /** "each votes guilty for a TOOL, if it ANSWERS less"; "whether more vote guilty than do not". */
    private static void juryTies() {
        ToolCourt x = Kit.court(SIX_HEADS, "tool 0;tool 1;tool 2;tool 3;tool 4;tool 5;master 0");
        int[] guilt = {10, 9, 10, 11, 9, 12};
        for (int tool = 0; tool < 6; tool++) {
            x.deed(tool, 0, guilt[tool], 0);
        }
        for (int set = 0; set < 64; set++) {
            int more = 0;
            for (int tool = 0; tool < 6; tool++) {
                more += (set >> tool & 1) == 0 ? 0 : guilt[tool] < 10 ? 1 : -1;
            }
            Kit.due("33: jury(" + set + ", 0)", x.jury(set, 0), more > 0);
            Kit.due("33: jury(" + set + " and bits of none, 0)", x.jury(set | -64, 0), more > 0);
        }
        Kit.due("33: five of six", x.jury(63, 5) + " " + x.jury(-1, 5), "true true");
        Kit.due("33: none of six", x.jury(0, 5) + " " + x.jury(MIN, 5) + " " + x.jury(64, 5), "false false false");
    }

    /** "a MASTER whose BENCH is less than 2 away". */
    private static void alibiBenches() {
        ToolCourt x = Kit.court("part head edge 0 wear 0;tool 0;master 5;master 6;master 7;master 4;master 3;master 5");
        x.days(2);
        for (int master = 0; master < 6; master++) {
            Kit.due("34: no DEED on DAY 2", x.alibi(master, 2), true);
        }
        x.deed(0, 0, 1, 0);
        boolean[] due = {false, false, true, false, true, false};
        for (int master = 0; master < 6; master++) {
            Kit.due("34: MASTER " + master, x.alibi(master, 2), due[master]);
            Kit.due("34: the DAY ahead, the DAY behind", x.alibi(master, 1) && x.alibi(master, 3), true);
            Kit.due("34: DAY 0, DAY MAX", x.alibi(master, 0) && x.alibi(master, MAX), true);
        }
        ToolCourt y = Kit.court("part head edge 0 wear 0;tool 0;master 0;master 9");
        y.deed(0, 1, 1, 0);
        Kit.due("34: on DAY 0, BENCHES 0 and 9", y.alibi(0, 0) + " " + y.alibi(1, 0), "true false");
    }

    private static void worstMasterTies() {
        ToolCourt x = Kit.court(NINE, "tool 0 1;" + Kit.times(6, "master 0"));
        Kit.due("35: none without any HARM", x.worstMaster(), -1);
        x.deed(0, 5, 3, 0);
        Kit.due("35: the last MASTER", x.worstMaster(), 5);
        x.deed(0, 3, 3, 0);
        Kit.due("35: of two the least", x.worstMaster(), 3);
        x.deed(0, 0, 2, 0);
        Kit.due("35: 2 are fewer", x.worstMaster(), 3);
        x.deed(0, 0, 1, 0);
        Kit.due("35: of three the least", x.worstMaster(), 0);
        x.deed(0, 5, 1, 0);
        Kit.due("35: one more", x.worstMaster(), 5);
    }

    /** "of N DAYS (0 to 60)". */
    private static void trialDays() {
        ToolCourt x = Kit.court("part head edge 0 wear 0;part head edge 0 wear 39;damp 100");
        Kit.due("37: 0, 1, 60", x.trial(0) + " " + x.trial(1) + " " + x.trial(60), "39 41 159");
        Kit.due("38: 0, 1, 60", x.span(0, true) + " " + x.span(1, false) + " " + x.span(60, true), "39 41 159");
        Kit.refused("37: 61", Kit.ARGUMENT, () -> x.trial(61));
        Kit.refused("37: -1", Kit.ARGUMENT, () -> x.trial(-1));
        x.days(1);
        Kit.due("37: 99 at most", x.trial(60), 61 + 99);
        Kit.due("37: without heads", new ToolCourt().trial(60) + new ToolCourt().span(60, false), 0);
    }

    /** "from SEED 1, 2, .. 6": neither 0 nor 7, each of the six counts. */
    private static void spanSeeds() {
        boolean[] least = new boolean[8];
        boolean[] most = new boolean[8];
        for (int damp = 1; damp <= 99; damp++) {
            for (int n : new int[] {1, 2, 3, 4, 5, 7, 9, 12, 15, 20, 30, 45, 60}) {
                ToolCourt x = Kit.court("part head edge 0 wear 0;damp " + damp);
                int[] wear = new int[8];
                for (int seed = 0; seed < 8; seed++) {
                    x.seed(seed);
                    wear[seed] = x.trial(n);
                }
                int few = 99;
                int many = 0;
                for (int seed = 1; seed <= 6; seed++) {
                    few = Math.min(few, wear[seed]);
                    many = Math.max(many, wear[seed]);
                }
                Kit.due("38: the fewest of " + n + ", DAMP " + damp, x.span(n, false), few);
                Kit.due("38: the most of " + n + ", DAMP " + damp, x.span(n, true), many);
                for (int seed = 0; seed < 8; seed++) {
                    least[seed] |= alone(wear, seed, true);
                    most[seed] |= alone(wear, seed, false);
                }
            }
        }
        for (int seed = 0; seed < 8; seed++) {
            Kit.due("38: SEED " + seed + " told both apart", least[seed] + " " + most[seed], "true true");
        }
    }

    /** Whether that SEED alone, of all that it stands with, has the fewest (or the most). */
    private static boolean alone(int[] wear, int seed, boolean fewest) {
        for (int other = 1; other <= 6; other++) {
            if (other != seed && (fewest ? wear[other] <= wear[seed] : wear[other] >= wear[seed])) {
                return false;
            }
        }
        return true;
    }

    /** "the least HARM (1 to 999) by which it were GUILTY; none (also if it is now)". */
    private static void worstEdges() {
        ToolCourt x = Kit.court(NINE, "tool 0 1 2;master 0");
        Kit.due("40: LIMIT 0", x.worst(0, 0, 0), 1);
        Kit.shop(x, "limit 998");
        Kit.due("40: 999", x.worst(0, 0, 9), 999);
        Kit.shop(x, "limit 999");
        Kit.due("40: none", x.worst(0, 0, 0), -1);
        x.deed(0, 0, 1, 0);
        Kit.due("40: 1 and 999", x.worst(0, 0, 0), 999);
        x.deed(0, 0, 998, 0);
        Kit.due("40: it ANSWERS LIMIT", x.tool(0, 3) + " " + x.worst(0, 0, 0), "999 1");
        x.deed(0, 0, 1, 0);
        Kit.due("40: it is GUILTY now", x.worst(0, 0, 0), -1);
        x.undo();
        Kit.law(x, "answer 100 if harm > 998");
        Kit.due("40: 999 alone is answered", x.worst(0, 0, 0), 999);
        Kit.law(x, "answer 100 if harm < 2");
        Kit.due("40: 1 alone is answered", x.worst(0, 0, 0), 1);
        Kit.law(x, "answer 100 if harm > 499 and harm < 501 and hard > 8");
        Kit.due("40: 500 alone, on something HARD 9", x.worst(0, 0, 9) + " " + x.worst(0, 0, 8), "500 -1");
        Kit.law(x, "answer 100 if harm > 4;plead 100 if harm < 9");
        Kit.due("40: all is pleaded below 9", x.worst(0, 0, 0), 9);
        Kit.law(x, "");
        Kit.due("40: nothing is answered", x.worst(0, 0, 0), -1);
    }

    /** "NONE for another what"; what an empty shop counts. */
    private static void counts() {
        ToolCourt x = new ToolCourt();
        for (int what : new int[] {-1, -2, 15, 16, MIN, MAX}) {
            Kit.due("49: count(" + what + ")", x.count(what), -1);
        }
        for (int what = 0; what <= 14; what++) {
            Kit.due("1: count(" + what + ")", x.count(what), what == 4 ? -1 : 0);
        }
        Kit.law(x, "");
        Kit.due("49: a LAW of no LINES", x.count(4), 0);
        Kit.shop(x, "limit 9999;damp 100");
        Kit.due("49: LIMIT, DAMP", x.count(7) + " " + x.count(8), "9999 100");
        x.days(1);
        Kit.due("49: DAY, SHEETS, acts", x.count(5) + " " + x.count(14) + " " + x.count(13), "1 1 1");
    }
}
