/**
 * The bounds that the document names for ACTS, DRAWS, SHEETS, THE LOG and what is remembered (promises 11 to 16, 18,
 * 42 to 48): of each the last that is taken and the first that is not, what is empty, full, or goes round.
 */
public final class ActEdgesTest {
    private static final String HEAD = "part head edge 0 wear ";

    public static void main(String[] args) {
        marks();
        wearByDeeds();
        guiltByDeeds();
        leastAndMostHarm();
        sixtyDeeds();
        swapsOfEachSort();
        heirsOfGuilt();
        daysServed();
        servedBySorts();
        ground();
        nailed();
        daysPassed();
        headsRust();
        drawsAndDamp();
        seedGoesRound();
        sheets();
        sheetsOfADay();
        logIsFull();
        logIsAboveZero();
        tenActs();
        actsThatChangeNothing();
        daysOfOneCall();
        oneImage();
        Kit.close();
    }

    /** GRADE: "its WEAR by 10, rounded down", ahead of the DEED; 10 times EDGE, and GRADE. */
    private static void marks() {
        for (int wear : new int[] {0, 9, 10, 19, 20, 89, 90, 98, 99}) {
            for (int edge : new int[] {0, 9}) {
                ToolCourt x = Kit.court("part head edge " + edge + " wear " + wear + ";tool 0;master 0");
                Kit.due("18: WEAR " + wear, x.culprits(edge, wear / 10, 0), 1);
                Kit.due("11: EDGE " + edge + ", WEAR " + wear, x.deed(0, 0, 1, 9), 10 * edge + wear / 10);
                Kit.due("42: EDGE, GRADE", x.truth(0, 4) + " " + x.truth(0, 5), edge + " " + wear / 10);
            }
        }
    }

    /** "the WEAR of each is more by BLUNTS and, of the head, HARD (99 at most)". */
    private static void wearByDeeds() {
        int[][] due = {{0, 0, 0}, {0, 99, 0}, {90, 9, 0}, {90, 10, 0}, {99, 0, 9}, {99, 99, 9}, {90, 0, 9}, {89, 1, 9}, {90, 1, 9}, {98, 1, 0}};
        for (int[] row : due) {
            ToolCourt x = Kit.court("part handle edge 0 wear " + row[0] + ";part head edge 0 wear " + row[0]
                    + ";part joint edge 0 wear " + row[0] + ";tool 0 1 2;master 0");
            Kit.law(x, "blunt " + row[1]);
            x.deed(0, 0, 1, row[2]);
            String name = "11: WEAR " + row[0] + ", BLUNTS " + row[1] + ", HARD " + row[2];
            Kit.due(name + ", handle", x.part(0, 2), Math.min(99, row[0] + row[1]));
            Kit.due(name + ", head", x.part(1, 2), Math.min(99, row[0] + row[1] + row[2]));
            Kit.due(name + ", joint", x.part(2, 2), Math.min(99, row[0] + row[1]));
        }
        ToolCourt x = Kit.court(HEAD + "97;tool 0;master 0");
        x.deed(0, 0, 1, 0);
        Kit.due("11: BLUNTS 1 without a text", x.part(0, 2), 98);
        x.deed(0, 0, 1, 1);
        Kit.due("11: 99 at most", x.part(0, 2), 99);
    }

    /** "HARM times ANSWERS by 100, rounded down, times 100 less PLEADS by 100, rounded down". */
    private static void guiltByDeeds() {
        int[] harms = {1, 2, 99, 100, 101, 999};
        int[] hundredths = {0, 1, 49, 50, 51, 99, 100};
        for (int answers : hundredths) {
            for (int pleads : hundredths) {
                ToolCourt x = Kit.court(HEAD + "0;tool 0;master 0;limit 9999");
                Kit.law(x, "answer " + answers + ";plead " + pleads);
                int all = 0;
                for (int harm : harms) {
                    all += (int) Math.floor(Math.floor(harm * answers / 100.0) * (100 - pleads) / 100.0);
                    String name = "11: HARM " + harm + ", ANSWERS " + answers + ", PLEADS " + pleads;
                    Kit.due(name + ", ahead", x.after(0, 0, harm, 0), all);
                    x.deed(0, 0, harm, 0);
                    Kit.due(name, x.part(0, 3), all);
                }
            }
        }
    }

    /** HARM 1 to 999, HARD 0 to 9. */
    private static void leastAndMostHarm() {
        ToolCourt x = Kit.court(HEAD + "0;tool 0;master 0");
        x.deed(0, 0, 1, 0);
        x.deed(0, 0, 999, 9);
        Kit.due("42: HARM 1", x.truth(0, 3), 1);
        Kit.due("42: HARM 999", x.truth(1, 3), 999);
        Kit.due("11: GUILT", x.part(0, 3), 1000);
        Kit.due("11: WEAR by HARD 0 and 9", x.part(0, 2), 11);
        Kit.due("39: HARM 1, HARD 0", x.after(0, 0, 1, 0), 1001);
        Kit.due("39: HARM 999, HARD 9", x.after(0, 0, 999, 9), 1999);
    }

    /** "all DEEDS (at most 60; then none can be done)"; the most GUILT and HARM that can be. */
    private static void sixtyDeeds() {
        ToolCourt x = Kit.court("part handle edge 0 wear 0;" + HEAD + "0;part joint edge 0 wear 0;tool 0 1 2;master 0");
        Kit.law(x, "answer 100");
        for (int i = 0; i < 60; i++) {
            Kit.due("49: DEEDS", x.count(6), i);
            x.deed(0, 0, 999, 0);
        }
        Kit.due("49: sixty", x.count(6), 60);
        Kit.refused("11: a 61st", Kit.UNSUPPORTED, () -> x.deed(0, 0, 999, 0));
        Kit.due("42: the last one", x.truth(59, 3), 999);
        Kit.refused("42: no 61st", Kit.INDEX, () -> x.truth(60, 3));
        Kit.due("49: GUILT of all", x.count(10), 3 * 60 * 999);
        Kit.due("8: SENTENCE", x.tool(0, 4), 3 * 60 * 999 / 10);
        Kit.due("9: HARM", x.master(0, true), 60 * 999);
        Kit.due("27: HARM", x.harmed(0, 0), 60 * 999);
        Kit.due("7: SHARE of such GUILT", x.part(1, 8), 3333);
        Kit.due("26: STROKES", x.strokes(0, false) + x.strokes(0, true), 120);
        Kit.due("36: PAIRS", x.pairs(0, 0), 60);
        Kit.due("28: far more than 64 days", x.cell(-1), -3);
        x.undo();
        Kit.due("11: an undone one makes room for one", x.deed(0, 0, 1, 0) + x.count(6), 60);
        Kit.refused("11: but for one alone", Kit.UNSUPPORTED, () -> x.deed(0, 0, 1, 0));
    }

    private static void swapsOfEachSort() {
        String all = "part handle edge 0 wear 0;" + HEAD + "0;part joint edge 0 wear 0;part handle edge 0 wear 0;" + HEAD
                + "0;part joint edge 0 wear 0;";
        ToolCourt x = Kit.court(all + "tool 0 1 2;master 0");
        for (int sort = 0; sort < 3; sort++) {
            x.swap(0, sort, sort + 3);
            Kit.due("12: SORT " + sort, x.tool(0, sort), sort + 3);
            Kit.due("12: the other is SPARE", x.part(sort, 6), -1);
            x.swap(0, sort, -1);
            Kit.due("12: none, SORT " + sort, x.tool(0, sort), -1);
            x.swap(0, sort, sort);
            Kit.due("12: where none was, SORT " + sort, x.tool(0, sort), sort);
            Kit.due("12: its TOOL", x.part(sort, 6), 0);
        }
        Kit.due("12: no GUILT came by any", x.count(12), 0);
        // The last PART of the most that can be.
        ToolCourt y = Kit.court(Kit.times(14, HEAD + "0"), HEAD + "0;" + HEAD + "0;tool 0");
        Kit.due("12: PART 15", y.swap(0, 1, 15) + y.tool(0, 1), 15);
    }

    /** "HEIRS in a hundred of its GUILT, rounded down, go over". */
    private static void heirsOfGuilt() {
        for (int guilt : new int[] {1, 2, 99, 100, 101, 999}) {
            for (int heirs : new int[] {0, 1, 49, 50, 51, 99, 100}) {
                ToolCourt x = Kit.court(HEAD + "0;" + HEAD + "0;tool 0;master 0");
                x.deed(0, 0, guilt, 0);
                Kit.law(x, "heir " + heirs);
                int over = (int) Math.floor(guilt * heirs / 100.0);
                String name = "12: GUILT " + guilt + ", HEIRS " + heirs;
                Kit.due(name, x.swap(0, 1, 1), over);
                Kit.due(name + ": what is left", x.part(0, 3), guilt - over);
                Kit.due(name + ": what came", x.part(1, 3) + " " + x.part(1, 7) + " " + x.part(0, 7), over + " " + over + " 0");
                Kit.due(name + ": a row, if any came", x.count(12), over > 0 ? 2 : 1);
                Kit.due(name + ": the heir", x.heir(), over > 0 ? 1 : -1);
            }
        }
    }

    /** "N days (1 to 99): each day 10 of GUILT less, as far as there is". */
    private static void daysServed() {
        for (int guilt : new int[] {0, 1, 9, 10, 11, 989, 990, 991, 999}) {
            for (int days : new int[] {1, 2, 98, 99}) {
                ToolCourt x = Kit.court(HEAD + "0;tool 0;master 0");
                if (guilt > 0) {
                    x.deed(0, 0, guilt, 0);
                }
                Kit.due("8: SENTENCE of " + guilt, x.tool(0, 4), (int) Math.ceil(guilt / 10.0));
                int less = Math.min(guilt, 10 * days);
                Kit.due("13: GUILT " + guilt + ", " + days + " days", x.serve(0, days), less);
                Kit.due("13: what is left", x.part(0, 3), guilt - less);
                Kit.due("49: SERVED in all", x.count(11), less);
                Kit.due("13: DAY stays, and the LOG", x.count(5) + " " + x.count(12), "0 " + (guilt > 0 ? 1 : 0));
            }
        }
    }

    /** "of its PARTS by SORTS, as far as there is": a day goes on to the next SORT. */
    private static void servedBySorts() {
        ToolCourt x = Kit.court("part joint edge 0 wear 0;" + HEAD + "0;part handle edge 0 wear 0;" + HEAD + "0;tool 0 1 2;tool 3;master 0");
        Kit.law(x, "answer 4 if handle;answer 5 if head;answer 6 if joint");
        x.deed(0, 0, 100, 0);
        x.deed(1, 0, 100, 0);
        Kit.due("13: a day of all three", x.serve(0, 1), 10);
        Kit.due("13: handle, head, joint", "" + x.part(2, 3) + x.part(1, 3) + x.part(0, 3), "005");
        Kit.due("13: the other TOOL's stays", x.part(3, 3), 5);
        Kit.due("13: the rest", x.serve(0, 1), 5);
        Kit.due("13: nothing", x.serve(0, 99), 0);
        Kit.due("49: SERVED in all", x.count(11), 15);
        ToolCourt y = Kit.court("part handle edge 0 wear 0;tool 0");
        Kit.due("13: without a head, without GUILT", y.serve(0, 1), 0);
    }

    /** "a head's WEAR is 30 less (0 at least), once ever". */
    private static void ground() {
        for (int wear : new int[] {0, 1, 29, 30, 31, 99}) {
            ToolCourt x = Kit.court(HEAD + wear + ";" + HEAD + "50;tool 0");
            Kit.due("14: WEAR " + wear, x.grind(0), Math.max(0, wear - 30));
            Kit.due("14: it is so", x.part(0, 2) + " " + x.part(0, 5), Math.max(0, wear - 30) + " 1");
            Kit.due("14: the other is not GROUND", x.part(1, 2) + " " + x.part(1, 5), "50 0");
            x.swap(0, 1, 1);
            x.days(1);
            Kit.refused("14: once ever, SPARE too", Kit.STATE, () -> x.grind(0));
            Kit.due("14: a head in a TOOL as well", x.grind(1), 20);
        }
    }

    private static void nailed() {
        ToolCourt x = Kit.court("part handle edge 0 wear 0;" + HEAD + "0;part joint edge 0 wear 0;part handle edge 0 wear 0;tool 0 1 2;nail 1");
        for (int part = 0; part < 3; part++) {
            int sort = part;
            Kit.due("15: NAIL " + part, x.nail(part, true), part != 1);
            Kit.refused("12: it is held fast", Kit.STATE, () -> x.swap(0, sort, -1));
            Kit.due("15: once more", x.nail(part, true), false);
            Kit.due("7: NAILED", x.part(part, 4), 1);
            Kit.due("15: FREED", x.nail(part, false), true);
            Kit.due("15: once more", x.nail(part, false), false);
            Kit.due("7: not NAILED", x.part(part, 4), 0);
            Kit.due("12: it can go", x.swap(0, part, -1), 0);
            Kit.refused("15: then it is SPARE", Kit.STATE, () -> x.nail(sort, true));
        }
    }

    /** "So many DAYS more (1 to 60)". */
    private static void daysPassed() {
        ToolCourt x = Kit.court(HEAD + "0;tool 0;master 0");
        Kit.law(x, "");
        Kit.due("16: no DAMP, no WEAR", x.days(1) + x.days(60), 0);
        Kit.due("49: DAY", x.count(5), 61);
        Kit.refused("16: 0", Kit.ARGUMENT, () -> x.days(0));
        Kit.refused("16: 61", Kit.ARGUMENT, () -> x.days(61));
        Kit.due("49: DAY as it was", x.count(5), 61);
        x.deed(0, 0, 1, 0);
        Kit.due("42: DAY of a DEED", x.truth(0, 0), 61);
        for (int i = 0; i < 100; i++) {
            x.days(60);
        }
        Kit.due("49: DAY 6061", x.count(5), 6061);
        Kit.due("49: SHEETS", x.count(14), 30);
        Kit.due("18: the oldest kept", x.culprits(0, 0, 6031), 1);
        Kit.due("18: the one ahead of it", x.culprits(0, 0, 6030), -1);
        Kit.due("18: DAY 0", x.culprits(0, 0, 0), -1);
    }

    /** "each head (SPARE ones, too), by numbers, WEAR 1 more (99 at most)". */
    private static void headsRust() {
        ToolCourt x = Kit.court("damp 100;" + HEAD + "97;" + HEAD + "98;" + HEAD + "99;" + HEAD
                + "0;part handle edge 0 wear 5;part joint edge 0 wear 98;tool 0 4;tool 5");
        Kit.due("37: DAY by DAY", x.trial(0) + " " + x.trial(1) + " " + x.trial(2) + " " + x.trial(3) + " " + x.trial(60),
                "294 297 299 300 357");
        Kit.due("16: three of four", x.days(1), 3);
        Kit.due("16: two of four", x.days(1), 2);
        Kit.due("16: one of four", x.days(1), 1);
        Kit.due("16: WEAR", x.part(0, 2) + " " + x.part(1, 2) + " " + x.part(2, 2) + " " + x.part(3, 2), "99 99 99 3");
        Kit.due("16: handle and joint do not rust", x.part(4, 2) + " " + x.part(5, 2), "5 98");
        Kit.due("16: sixty by one", x.days(60), 60);
        Kit.due("16: till 99", x.days(60), 36);
        Kit.due("16: no more", x.days(60), 0);
        ToolCourt y = Kit.court("damp 100;part handle edge 0 wear 0;tool 0");
        Kit.due("16: without heads", y.days(60) + y.trial(60) + y.span(60, true), 0);
    }

    /** "SEED is 1103515245 times SEED and 12345, as an int that goes round". */
    private static int next(int seed) {
        return (int) ((1103515245L * (seed & 0xffffffffL) + 12345L) & 0xffffffffL);
    }

    /** "bits 16 to 30". */
    private static int draw(int seed) {
        return (int) ((seed & 0xffffffffL) % (1L << 31) / 65536);
    }

    private static int wearOfADay(int seed, int damp) {
        ToolCourt x = Kit.court(HEAD + "0;damp " + damp);
        x.seed(seed);
        Kit.due("37: as the DAY will be", x.trial(1), x.days(1));
        return x.part(0, 2);
    }

    /** "DRAW modulo 100 below DAMP": never by DAMP 0, always by 100. */
    private static void drawsAndDamp() {
        boolean[] seen = new boolean[100];
        for (int seed = 1, left = 100; left > 0; seed++) {
            int rest = draw(next(seed)) % 100;
            if (!seen[rest]) {
                seen[rest] = true;
                left--;
                Kit.due("16: DRAW modulo 100 is " + rest + ", and DAMP", wearOfADay(seed, rest), 0);
                Kit.due("16: DRAW modulo 100 is " + rest + ", DAMP more by one", wearOfADay(seed, rest + 1), 1);
                Kit.due("16: DAMP 0", wearOfADay(seed, 0), 0);
                Kit.due("16: DAMP 100", wearOfADay(seed, 100), 1);
            }
        }
    }

    private static void seedGoesRound() {
        int[] seeds = {0, 1, 2, -1, Integer.MAX_VALUE, Integer.MIN_VALUE, Integer.MIN_VALUE + 1, 65535, 65536, -65536, 1 << 30, 0x7fff0000, 0x80007fff};
        for (int seed : seeds) {
            int rest = draw(next(seed)) % 100;
            Kit.due("16: SEED " + seed, "" + wearOfADay(seed, rest) + wearOfADay(seed, rest + 1), "01");
            ToolCourt x = Kit.court(HEAD + "0;damp 40");
            Kit.due("45: SEED 1 at first", x.seed(seed), 1);
            Kit.due("45: what it was", x.seed(seed), seed);
            int then = seed;
            for (int i = 0; i < 20; i++) {
                x.days(1);
                then = next(then);
                Kit.due("45: SEED " + i + " DAYS behind " + seed, x.seed(then), then);
            }
            x.days(20);
            for (int i = 0; i < 20; i++) {
                then = next(then);
            }
            Kit.due("45: one DRAW a DAY", x.seed(0), then);
        }
    }

    /** "of each DAY gone (the latest 30)". */
    private static void sheets() {
        ToolCourt x = Kit.court("part head edge 7 wear 95;tool 0");
        Kit.due("18: no DAY is gone, today is now", x.culprits(7, 9, 0), 1);
        for (int day = 1; day <= 33; day++) {
            x.days(1);
            Kit.due("49: SHEETS on DAY " + day, x.count(14), Math.min(30, day));
            int oldest = Math.max(0, day - 30);
            Kit.due("18: the oldest SHEET on DAY " + day, x.culprits(7, 9, oldest), 1);
            Kit.due("18: yesterday's", x.culprits(7, 9, day - 1), 1);
            Kit.due("18: today", x.culprits(7, 9, day), 1);
            if (oldest > 0) {
                Kit.due("18: no SHEET any more", x.culprits(7, 9, oldest - 1), -1);
            }
        }
        x.undo();
        Kit.due("18: undone, the SHEET is there again", x.culprits(7, 9, 2), 1);
        Kit.due("18: but not the one ahead", x.culprits(7, 9, 1), -1);
        Kit.refused("18: the DAY is to come again", Kit.ARGUMENT, () -> x.culprits(7, 9, 33));
    }

    /** "as all was at its end, ahead of the DRAW (and of the WEAR by it): of each TOOL there was". */
    private static void sheetsOfADay() {
        StringBuilder text = new StringBuilder("damp 100;master 0");
        for (int i = 0; i < 6; i++) {
            text.append(";part head edge 4 wear ").append(i == 5 ? 8 : 9);
        }
        ToolCourt x = Kit.court(text.toString(), "tool 0;tool 1;tool 2;tool 3;tool 4");
        x.deed(0, 0, 1, 0);
        x.swap(1, 1, -1);
        x.grind(2);
        x.days(1);
        Kit.shop(x, "tool 5");
        Kit.due("18: DAY 0, GRADE 0", x.culprits(4, 0, 0), 28);
        Kit.due("18: DAY 0, GRADE 1", x.culprits(4, 1, 0), 1);
        Kit.due("18: DAY 1, GRADE 0", x.culprits(4, 0, 1), 36);
        Kit.due("18: DAY 1, GRADE 1", x.culprits(4, 1, 1), 25);
        Kit.due("18: another EDGE", x.culprits(3, 0, 0) + x.culprits(5, 0, 0), 0);
        x.days(1);
        Kit.due("18: six TOOLS", x.culprits(4, 0, 1), 36);
    }

    /** "THE LOG: the latest 60", rows of one DEED by SORTS. */
    private static void logIsFull() {
        ToolCourt x = Kit.court("part handle edge 0 wear 0;" + HEAD + "0;part joint edge 0 wear 0;" + HEAD + "0;tool 0 1 2;master 0");
        Kit.law(x, "answer 100;heir 100");
        for (int deed = 1; deed <= 20; deed++) {
            x.deed(0, 0, deed, 0);
            Kit.due("49: rows", x.count(12), 3 * deed);
        }
        Kit.due("43: the first row", x.log(59, 1) + " " + x.log(59, 2) + " " + x.log(59, 3), "0 1 0");
        Kit.due("43: none behind it", x.log(60, 1), -99);
        Kit.due("44: twenty of each", x.led(0) + " " + x.led(1) + " " + x.led(2) + " " + x.led(3), "20 20 20 0");
        x.swap(0, 1, 3);
        Kit.due("49: sixty rows", x.count(12), 60);
        Kit.due("44: the first is gone", x.led(0) + " " + x.led(1) + " " + x.led(2) + " " + x.led(3), "19 20 20 1");
        Kit.due("43: the latest", x.log(0, 1) + " " + x.log(0, 2) + " " + x.log(0, 3) + " " + x.log(0, 4), "3 210 -1 1");
        Kit.due("43: the oldest", x.log(59, 1) + " " + x.log(59, 2) + " " + x.log(59, 3), "1 1 0");
        x.deed(0, 0, 500, 0);
        Kit.due("44: three are gone", x.led(0) + " " + x.led(1) + " " + x.led(2) + " " + x.led(3), "19 19 20 2");
        Kit.due("43: the oldest then", x.log(59, 1) + " " + x.log(59, 2) + " " + x.log(59, 3), "1 2 1");
        x.undo();
        x.undo();
        Kit.due("43: undone, the first row is back", x.log(59, 1) + " " + x.log(59, 2) + " " + x.log(59, 3), "0 1 0");
    }

    /** "how much (above 0)". */
    private static void logIsAboveZero() {
        ToolCourt x = Kit.court(HEAD + "0;" + HEAD + "0;tool 0;master 0");
        Kit.law(x, "answer 99");
        x.deed(0, 0, 1, 0);
        Kit.due("43: 0 by ANSWERS", x.count(12) + " " + x.count(6), "0 1");
        Kit.law(x, "answer 100;plead 1");
        x.deed(0, 0, 1, 0);
        Kit.due("43: 0 by PLEADS", x.count(12) + " " + x.led(0), "0 0");
        Kit.law(x, "answer 100;heir 99");
        x.deed(0, 0, 1, 0);
        Kit.due("43: 1", x.count(12) + " " + x.log(0, 2) + " " + x.log(0, 3) + " " + x.led(0), "1 1 2 1");
        Kit.due("43: 0 by HEIRS", x.swap(0, 1, 1) + x.count(12), 1);
        x.swap(0, 1, 0);
        Kit.law(x, "heir 100");
        Kit.due("43: 1 by HEIRS", x.swap(0, 1, 1) + x.count(12), 3);
    }

    /** "10 are remembered". */
    private static void tenActs() {
        ToolCourt x = Kit.court(HEAD + "0;tool 0;master 0");
        for (int n = 1; n <= 23; n++) {
            x.deed(0, 0, n, 0);
            Kit.due("49: remembered", x.count(13), Math.min(10, n));
        }
        for (int n = 1; n <= 10; n++) {
            Kit.due("46: ACT " + n + " back", x.undo(), true);
            Kit.due("42: DEEDS then", x.count(6), 23 - n);
            Kit.due("49: remembered then", x.count(13), 10 - n);
        }
        Kit.due("46: an 11th is not remembered", x.undo(), false);
        Kit.due("46: nothing happened", x.count(6), 13);
        for (int n = 1; n <= 9; n++) {
            x.deed(0, 0, n, 0);
        }
        x.undo();
        Kit.due("46: nine, less one", x.count(13), 8);
        x.deed(0, 0, 77, 0);
        x.deed(0, 0, 78, 0);
        Kit.due("46: ten", x.count(13), 10);
        for (int n = 1; n <= 10; n++) {
            x.undo();
        }
        Kit.due("46: as ahead of the ten", x.count(6) + " " + x.undo(), "13 false");
    }

    /** "each also if it changes nothing". */
    private static void actsThatChangeNothing() {
        ToolCourt x = Kit.court(HEAD + "0;tool 0;master 0");
        Kit.law(x, "");
        x.serve(0, 1);
        Kit.due("46: SERVED", x.count(13), 1);
        x.nail(0, false);
        Kit.due("46: FREED", x.count(13), 2);
        x.nail(0, true);
        x.nail(0, true);
        Kit.due("46: NAIL", x.count(13), 4);
        x.grind(0);
        Kit.due("46: GRIND of WEAR 0", x.count(13), 5);
        x.deed(0, 0, 1, 0);
        x.days(1);
        Kit.due("46: a DEED, a DAY", x.count(13), 7);
        x.feed(0, 0, 0, 0, 0);
        x.end(0);
        x.seed(5);
        x.image();
        x.trial(3);
        x.together(true);
        Kit.due("46: no others", x.count(13), 7);
        x.undo();
        x.undo();
        Kit.due("46: undo is none", x.count(13), 5);
        x.undo();
        Kit.due("46: not GROUND any more", x.part(0, 5), 0);
        x.undo();
        Kit.due("46: NAILED twice, once undone", x.part(0, 4), 1);
        x.undo();
        Kit.due("46: both undone", x.part(0, 4), 0);
    }

    /** "DAYS of one call are one". */
    private static void daysOfOneCall() {
        ToolCourt x = Kit.court(HEAD + "0;tool 0;damp 100;need 31 0;need 0 0");
        x.days(3);
        x.days(60);
        Kit.due("49: two ACTS", x.count(13), 2);
        x.undo();
        Kit.due("46: DAY 3", x.count(5) + " " + x.part(0, 2) + " " + x.count(14) + " " + x.tool(0, 5), "3 3 3 " + (1 << 28));
        x.undo();
        Kit.due("46: DAY 0", x.count(5) + " " + x.part(0, 2) + " " + x.count(14) + " " + x.tool(0, 5), "0 0 0 " + (1 | 1 << 31));
        Kit.due("46: SEED as it was", x.seed(1), 1);
    }

    /** "THE IMAGE (one) of all may be kept"; "false, and nothing happens, if none was kept". */
    private static void oneImage() {
        ToolCourt x = Kit.court(HEAD + "0;tool 0;master 0");
        x.deed(0, 0, 5, 0);
        Kit.due("48: none was kept", x.back(), false);
        Kit.due("48: the ACT is still remembered", x.count(13), 1);
        x.image();
        x.deed(0, 0, 6, 0);
        x.image();
        x.deed(0, 0, 7, 0);
        Kit.due("48: to the later one", x.back() + " " + x.count(10), "true 11");
        Kit.due("48: none are remembered", x.undo() + " " + x.count(13), "false 0");
        Kit.due("48: it is kept still", x.back() + " " + x.count(10), "true 11");
        x.deed(0, 0, 7, 0);
        x.undo();
        Kit.due("46: THE IMAGE stays when an ACT is undone", x.back() + " " + x.count(10), "true 11");
    }
}
