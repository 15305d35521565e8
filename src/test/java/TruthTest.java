/** Promises 25 to 27, 29 to 32, 34 to 36 and 41 to 44: what TRUTH and THE LOG tell. */
public final class TruthTest {
    public static void main(String[] args) {
        with();
        strokes();
        harmed();
        joint();
        jointOfThree();
        clock();
        together();
        heir();
        alibi();
        worstMaster();
        pairs();
        sure();
        truth();
        log();
        Kit.close();
    }

    private static void with() {
        ToolCourt x = Kit.court(Kit.SHOP);
        Kit.due("25: without DEEDS", x.with(1), 0);
        x.deed(0, 0, 1, 0);
        Kit.due("25: one DEED", x.with(1), 7);
        x.swap(0, 0, 6);
        x.deed(0, 0, 1, 0);
        Kit.due("25: head and joint", x.with(1), 6);
        Kit.due("25: of the handle that was there once", x.with(0), 7);
        Kit.due("25: of the other handle", x.with(6), 70);
        Kit.due("25: of one that did nothing", x.with(3), 0);
        Kit.refused("25: no PART", Kit.INDEX, () -> x.with(7));
        Kit.refused("25: PART -1", Kit.INDEX, () -> x.with(-1));
    }

    private static void strokes() {
        ToolCourt x = Kit.court(Kit.SHOP);
        Kit.due("26: none", "" + x.strokes(1, false) + x.strokes(1, true), "00");
        x.deed(0, 0, 1, 0);
        x.deed(1, 0, 1, 0);
        x.deed(0, 0, 1, 0);
        x.days(1);
        x.deed(0, 0, 1, 0);
        x.deed(0, 0, 1, 0);
        x.deed(1, 0, 1, 0);
        x.deed(0, 0, 1, 0);
        x.days(2);
        x.deed(0, 0, 1, 0);
        Kit.due("26: DEEDS", x.strokes(1, false), 6);
        Kit.due("26: the most on one DAY", x.strokes(1, true), 3);
        Kit.due("26: DEEDS of the other", x.strokes(4, false), 2);
        Kit.due("26: the most on one DAY of the other", x.strokes(4, true), 1);
        Kit.due("26: a SPARE one", x.strokes(5, false), 0);
        ToolCourt y = Kit.court(Kit.SHOP);
        y.deed(0, 0, 1, 0);
        y.deed(0, 0, 1, 0);
        y.days(1);
        y.deed(0, 0, 1, 0);
        Kit.due("26: the most on the first DAY", y.strokes(0, true), 2);
        Kit.refused("26: no PART", Kit.INDEX, () -> x.strokes(7, true));
        Kit.refused("26: PART -1", Kit.INDEX, () -> x.strokes(-1, false));
    }

    private static void harmed() {
        ToolCourt x = Kit.court(Kit.SHOP);
        Kit.law(x, "");
        x.deed(0, 0, 1, 0);
        x.days(2);
        x.deed(0, 0, 10, 0);
        x.days(1);
        x.deed(1, 1, 100, 0);
        Kit.due("27: all", x.harmed(0, 3), 111);
        Kit.due("27: far on", x.harmed(0, Integer.MAX_VALUE), 111);
        Kit.due("27: one DAY", x.harmed(2, 2), 10);
        Kit.due("27: two", x.harmed(2, 3), 110);
        Kit.due("27: none", x.harmed(1, 1), 0);
        Kit.due("27: to come", x.harmed(4, 9), 0);
        Kit.refused("27: below 0", Kit.ARGUMENT, () -> x.harmed(-1, 3));
        Kit.refused("27: turned round", Kit.ARGUMENT, () -> x.harmed(3, 2));
    }

    private static void joint() {
        ToolCourt x = Kit.court(Kit.SHOP);
        Kit.law(x, "answer 50 if handle;answer 100 if head;answer 10 if joint");
        x.deed(0, 0, 100, 0);
        Kit.due("29: in one alone", x.joint(0, 1), 0);
        x.swap(0, 1, -1);
        x.swap(0, 2, -1);
        x.swap(1, 1, -1);
        x.swap(1, 1, 1);
        x.swap(1, 2, 2);
        Kit.due("29: there, but did nothing", x.joint(0, 1), 0);
        x.deed(1, 0, 10, 0);
        Kit.due("29: head and joint", x.joint(0, 1), 121);
        Kit.due("29: the other way round", x.joint(1, 0), 121);
        x.serve(1, 1);
        Kit.due("29: GUILT as it is now", x.joint(0, 1), 116);
        x.swap(1, 1, -1);
        Kit.due("29: SPARE ones, too", x.joint(0, 1), 116);
        Kit.refused("29: no TOOL", Kit.INDEX, () -> x.joint(2, 2));
        Kit.refused("29: no first TOOL", Kit.INDEX, () -> x.joint(2, 0));
        Kit.refused("29: no other TOOL", Kit.INDEX, () -> x.joint(0, -1));
        Kit.refused("29: both are one", Kit.ARGUMENT, () -> x.joint(1, 1));
    }

    private static void jointOfThree() {
        ToolCourt x = Kit.court("part head edge 0 wear 0;part head edge 0 wear 0;part handle edge 0 wear 0;tool 0;tool 1;tool 2;master 0");
        x.deed(0, 0, 7, 0);
        x.deed(1, 0, 5, 0);
        x.swap(1, 1, -1);
        x.swap(2, 1, 1);
        x.deed(2, 0, 20, 0);
        x.swap(0, 1, -1);
        x.swap(1, 1, 0);
        x.deed(1, 0, 100, 0);
        Kit.due("29: PART 0 did something in 0 and 1", x.joint(0, 1), 107);
        Kit.due("29: PART 1 did something in 1 and 2", x.joint(1, 2), 25);
        Kit.due("29: none in 0 and 2", x.joint(0, 2), 0);
    }

    private static void clock() {
        ToolCourt x = Kit.court(Kit.SHOP);
        x.deed(0, 0, 1, 0);
        x.days(1);
        x.deed(0, 0, 1, 0);
        x.deed(1, 0, 1, 0);
        x.days(1);
        x.deed(0, 0, 1, 0);
        Kit.due("30: the first DAY of GRADE 1", x.clock(1, 1, false), 0);
        Kit.due("30: the last DAY of GRADE 1", x.clock(1, 1, true), 1);
        Kit.due("30: the first DAY of GRADE 2", x.clock(1, 2, false), 2);
        Kit.due("30: the last DAY of GRADE 2", x.clock(1, 2, true), 2);
        Kit.due("30: the other head", x.clock(4, 2, false), 1);
        Kit.due("30: never", x.clock(1, 9, false), -1);
        Kit.due("30: never, last", x.clock(1, 0, true), -1);
        Kit.due("30: a head that did nothing", x.clock(5, 0, true), -1);
        Kit.refused("30: no head", Kit.ARGUMENT, () -> x.clock(0, 1, false));
        Kit.refused("30: GRADE -1", Kit.ARGUMENT, () -> x.clock(1, -1, false));
        Kit.refused("30: GRADE 10", Kit.ARGUMENT, () -> x.clock(1, 10, false));
        Kit.refused("30: no PART", Kit.INDEX, () -> x.clock(7, 10, false));
        Kit.refused("30: PART -1", Kit.INDEX, () -> x.clock(-1, 1, true));
    }

    private static String together(ToolCourt x, boolean first, int... parts) {
        byte[] bytes = new byte[parts.length];
        for (int i = 0; i < parts.length; i++) {
            bytes[i] = (byte) parts[i];
        }
        Kit.feed(x, bytes);
        String answer = Kit.answer(() -> x.together(first));
        Kit.due("31: the TAPE is used up", x.end(1), false);
        return answer;
    }

    private static void together() {
        ToolCourt x = Kit.court(Kit.SHOP);
        Kit.due("31: no DEED", together(x, false, 0), 0);
        Kit.due("31: no DEED, none told", together(x, true), -1);
        x.days(1);
        x.deed(1, 0, 1, 0);
        x.days(1);
        x.deed(0, 0, 1, 0);
        x.days(1);
        x.deed(0, 0, 1, 0);
        Kit.due("31: two", together(x, false, 0, 2), 2);
        Kit.due("31: the first one's DAY", together(x, true, 0, 2), 2);
        Kit.due("31: twice is as once", together(x, false, 1, 1, 1, 0), 2);
        Kit.due("31: none are told", together(x, false), 3);
        Kit.due("31: none are told, first", together(x, true), 1);
        Kit.due("31: never together", together(x, false, 0, 3), 0);
        Kit.due("31: never together, first", together(x, true, 0, 3), -1);
        Kit.due("31: no such PART", together(x, false, 0, 7), "throws " + Kit.ARGUMENT);
        Kit.due("31: a high byte", together(x, true, 255), "throws " + Kit.ARGUMENT);
        Kit.feed(x, "limit 1x");
        Kit.answer(x::shop);
        together(x, true, 255);
        Kit.due("6: fault() is of the latest text", x.fault(), 7);
        Kit.due("31: all twenty bytes", together(x, false, 0, 1, 2, 0, 1, 2, 0, 1, 2, 0, 1, 2, 0, 1, 2, 0, 1, 2, 0, 1), 2);
    }

    private static void heir() {
        ToolCourt x = Kit.court(Kit.SHOP);
        Kit.law(x, "answer 100 if head;answer 100 if handle;heir 50");
        x.deed(0, 0, 40, 0);
        Kit.due("32: none by SWAPS", x.heir(), -1);
        x.swap(0, 0, 6);
        Kit.due("32: the one", x.heir(), 6);
        x.swap(0, 1, 5);
        Kit.due("32: of several the least", x.heir(), 5);
        x.swap(0, 0, 0);
        Kit.due("32: 10 are fewer than 20", x.heir(), 5);
        x.swap(0, 0, 6);
        Kit.due("32: what came in all", x.heir(), 6);
        x.serve(0, 99);
        Kit.due("32: though it is served", x.heir(), 6);
        ToolCourt y = Kit.court(Kit.SHOP);
        Kit.law(y, "answer 1 if handle");
        y.deed(0, 0, 100, 0);
        y.swap(0, 0, 6);
        Kit.law(y, "answer 1 if handle;heir 100");
        y.deed(0, 0, 100, 0);
        y.swap(0, 0, 0);
        Kit.due("32: PART 0, by 1", y.heir(), 0);
    }

    private static void alibi() {
        // BENCHES 2, 3, 7
        ToolCourt x = Kit.court(Kit.SHOP, "master 5;master 4");
        x.deed(0, 1, 1, 0);
        x.days(1);
        x.deed(0, 2, 1, 0);
        Kit.due("34: did it", x.alibi(1, 0), false);
        Kit.due("34: one bench away", x.alibi(0, 0), false);
        Kit.due("34: one bench away, above", x.alibi(4, 0), false);
        Kit.due("34: two benches away", x.alibi(3, 0), true);
        Kit.due("34: far away", x.alibi(2, 0), true);
        Kit.due("34: another DAY", x.alibi(1, 1), true);
        Kit.due("34: did it then", x.alibi(2, 1), false);
        Kit.due("34: two away then", x.alibi(3, 1), true);
        Kit.due("34: a DAY to come", x.alibi(2, Integer.MAX_VALUE), true);
        Kit.refused("34: no MASTER", Kit.INDEX, () -> x.alibi(5, -1));
        Kit.refused("34: MASTER -1", Kit.INDEX, () -> x.alibi(-1, 0));
        Kit.refused("34: DAY -1", Kit.ARGUMENT, () -> x.alibi(0, -1));
    }

    private static void worstMaster() {
        ToolCourt x = Kit.court(Kit.SHOP);
        Kit.due("35: none", x.worstMaster(), -1);
        x.deed(0, 2, 5, 0);
        Kit.due("35: the one", x.worstMaster(), 2);
        x.deed(1, 1, 5, 0);
        Kit.due("35: of several the least", x.worstMaster(), 1);
        x.deed(1, 2, 1, 0);
        Kit.due("35: HARM together", x.worstMaster(), 2);
        ToolCourt y = Kit.court(Kit.SHOP);
        y.deed(0, 0, 1, 0);
        Kit.due("35: MASTER 0, by 1", y.worstMaster(), 0);
    }

    private static void pairs() {
        ToolCourt x = Kit.court(Kit.SHOP);
        x.deed(0, 2, 5, 0);
        x.deed(0, 2, 5, 0);
        x.deed(1, 2, 5, 0);
        x.deed(0, 1, 5, 0);
        Kit.due("36: two", x.pairs(2, 0), 2);
        Kit.due("36: one", x.pairs(2, 1), 1);
        Kit.due("36: another MASTER", x.pairs(1, 0), 1);
        Kit.due("36: none", x.pairs(0, 0), 0);
        Kit.refused("36: no MASTER", Kit.INDEX, () -> x.pairs(3, 0));
        Kit.refused("36: no TOOL", Kit.INDEX, () -> x.pairs(0, 2));
        Kit.refused("36: MASTER -1", Kit.INDEX, () -> x.pairs(-1, 0));
        Kit.refused("36: TOOL -1", Kit.INDEX, () -> x.pairs(0, -1));
    }

    private static void sure() {
        ToolCourt x = Kit.court(Kit.SHOP);
        Kit.due("41: without DEEDS all", x.sure(3), 127);
        x.deed(0, 0, 1, 0);
        Kit.due("41: one DEED", x.sure(3), 7);
        x.swap(0, 0, 6);
        x.deed(0, 0, 1, 0);
        Kit.due("41: in each", x.sure(3), 6);
        x.swap(0, 1, 5);
        x.deed(0, 0, 1, 0);
        Kit.due("41: another EDGE", x.sure(5), 100);
        Kit.due("41: that EDGE", x.sure(3), 6);
        x.deed(1, 0, 1, 0);
        Kit.due("41: none in each", x.sure(3), 0);
        Kit.due("41: an EDGE without DEEDS", x.sure(0), 127);
        Kit.refused("41: EDGE -1", Kit.ARGUMENT, () -> x.sure(-1));
        Kit.refused("41: EDGE 10", Kit.ARGUMENT, () -> x.sure(10));
    }

    private static void truth() {
        ToolCourt x = Kit.court(Kit.SHOP);
        x.days(2);
        x.deed(1, 2, 77, 3);
        x.deed(0, 1, 5, 9);
        int[][] due = {{2, 1, 2, 77, 3, 2, 24}, {2, 0, 1, 5, 3, 1, 7}};
        for (int deed = 0; deed < 2; deed++) {
            for (int what = 0; what <= 6; what++) {
                Kit.due("42: truth(" + deed + ", " + what + ")", x.truth(deed, what), due[deed][what]);
            }
        }
        Kit.refused("42: no DEED", Kit.INDEX, () -> x.truth(2, 9));
        Kit.refused("42: DEED -1", Kit.INDEX, () -> x.truth(-1, 0));
        Kit.refused("42: what 7", Kit.NO_ELEMENT, () -> x.truth(0, 7));
        Kit.refused("42: what -1", Kit.NO_ELEMENT, () -> x.truth(0, -1));
    }

    private static void log() {
        ToolCourt x = Kit.court(Kit.SHOP);
        Kit.law(x, "answer 50 if handle;answer 100 if head;heir 50");
        Kit.due("43: without", x.log(0, 0), -99);
        x.days(3);
        x.deed(0, 0, 10, 0);
        x.days(1);
        x.swap(0, 1, 5);
        int[][] due = {{4, 5, 5, -1, 1}, {3, 1, 10, 0, -1}, {3, 0, 5, 0, -1}, {-99, -99, -99, -99, -99}};
        for (int ago = 0; ago < due.length; ago++) {
            for (int what = 0; what <= 4; what++) {
                Kit.due("43: log(" + ago + ", " + what + ")", x.log(ago, what), due[ago][what]);
            }
        }
        Kit.due("43: ago -1", x.log(-1, 0), -99);
        Kit.due("43: ago MIN", x.log(Integer.MIN_VALUE, 0), -99);
        Kit.due("43: ago MAX", x.log(Integer.MAX_VALUE, 4), -99);
        Kit.refused("43: what 5", Kit.NO_ELEMENT, () -> x.log(0, 5));
        Kit.refused("43: what -1", Kit.NO_ELEMENT, () -> x.log(99, -1));
        Kit.due("44: by one DEED", x.led(1), 1);
        Kit.due("44: by one SWAP", x.led(5), 1);
        Kit.due("44: by none", x.led(2), 0);
        for (int i = 0; i < 29; i++) {
            x.deed(0, 0, 10 + i, 0);
        }
        Kit.due("49: 60 rows at most", x.count(12), 60);
        Kit.due("43: the oldest one kept", x.log(59, 1), 1);
        Kit.due("43: none behind it", x.log(60, 1), -99);
        Kit.due("44: the first DEED's row of the handle is gone", x.led(0), 29);
        Kit.due("44: that of the head is the oldest", x.led(1), 1);
        Kit.due("44: the other head's", x.led(5), 30);
        Kit.due("43: the latest", x.log(0, 2), 38);
        for (int i = 0; i < 29; i++) {
            Kit.due("43: each row of the heads", x.log(2 * i, 1) + " " + x.log(2 * i, 2) + " " + x.log(2 * i, 3), "5 " + (38 - i) + " " + (29 - i));
            Kit.due("43: each row of the handles", x.log(2 * i + 1, 1) + " " + x.log(2 * i + 1, 2), "0 " + (38 - i) / 2);
        }
        x.undo();
        Kit.due("44: undone, the row is back", x.led(0), 29);
        Kit.due("43: undone, the latest", x.log(0, 2), 37);
        Kit.due("49: undone, rows", x.count(12), 59);
        Kit.refused("44: no PART", Kit.INDEX, () -> x.led(7));
        Kit.refused("44: PART -1", Kit.INDEX, () -> x.led(-1));
    }
}
