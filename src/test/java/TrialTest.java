/** Promises 37 to 40, 45 and 49: what would be, SEED, counts. */
public final class TrialTest {
    public static void main(String[] args) {
        trial();
        span();
        after();
        worst();
        seed();
        count();
        Kit.close();
    }

    private static void trial() {
        ToolCourt x = Kit.court("damp 50;part head edge 0 wear 98;part handle edge 1 wear 3;part head edge 9 wear 0;tool 0");
        // The draws modulo 100 from SEED 1 are 38, 58, 13, 15, 51, 27.
        int[] due = {98, 100, 100, 101, 102, 102, 103};
        for (int n = 0; n < due.length; n++) {
            Kit.due("37: trial(" + n + ")", x.trial(n), due[n]);
        }
        int sixty = x.trial(60);
        x.days(60);
        Kit.due("37: 60 DAYS, as they come", x.trial(0), sixty);
        x.seed(1);
        Kit.due("37: from the SEED now", x.trial(1), sixty + 1);
        Kit.refused("37: -1", Kit.ARGUMENT, () -> x.trial(-1));
        Kit.refused("37: 61", Kit.ARGUMENT, () -> x.trial(61));
    }

    private static void span() {
        ToolCourt x = Kit.court("damp 50;part head edge 0 wear 0;part head edge 9 wear 10");
        x.seed(77);
        for (int n : new int[] {0, 1, 7, 30, 60}) {
            int least = Integer.MAX_VALUE;
            int most = 0;
            for (int seed = 1; seed <= 6; seed++) {
                int was = x.seed(seed);
                least = Math.min(least, x.trial(n));
                most = Math.max(most, x.trial(n));
                x.seed(was);
            }
            Kit.due("38: the fewest of " + n, x.span(n, false), least);
            Kit.due("38: the most of " + n, x.span(n, true), most);
        }
        for (int damp = 10; damp < 100; damp += 10) {
            Kit.shop(x, "damp " + damp);
            int[] wear = new int[7];
            for (int seed = 1; seed <= 6; seed++) {
                x.seed(seed);
                wear[seed] = x.trial(1);
                wear[0] = Math.max(wear[0], wear[seed]);
            }
            x.seed(77);
            Kit.due("38: the most of one DAY, DAMP " + damp, x.span(1, true), wear[0]);
        }
        Kit.due("38: they differ", x.span(60, false) < x.span(60, true), true);
        Kit.due("38: SEED stays", x.seed(77), 77);
        Kit.refused("38: -1", Kit.ARGUMENT, () -> x.span(-1, true));
        Kit.refused("38: 61", Kit.ARGUMENT, () -> x.span(61, false));
    }

    private static void after() {
        ToolCourt x = Kit.court(Kit.SHOP);
        Kit.law(x, "answer 50 if head;answer 30 if handle;plead 20 if wear > 10;blunt 2 if hard > 3");
        Kit.due("39: what it would ANSWER", x.after(0, 0, 100, 5), 70);
        x.deed(0, 0, 100, 5);
        Kit.due("39: as it came", x.tool(0, 3), 70);
        Kit.due("39: once more", x.after(0, 0, 100, 5), 140);
        x.swap(1, 1, -1);
        Kit.refused("39: no TOOL", Kit.INDEX, () -> x.after(2, 0, 0, 0));
        Kit.refused("39: no MASTER", Kit.INDEX, () -> x.after(1, 3, 0, 0));
        Kit.refused("39: HARM 0", Kit.ARGUMENT, () -> x.after(1, 0, 0, 0));
        Kit.refused("39: HARM 1000", Kit.ARGUMENT, () -> x.after(1, 0, 1000, 0));
        Kit.refused("39: HARD -1", Kit.ARGUMENT, () -> x.after(1, 0, 1, -1));
        Kit.refused("39: HARD 10", Kit.ARGUMENT, () -> x.after(1, 0, 1, 10));
        Kit.refused("39: no head", Kit.STATE, () -> x.after(1, 0, 1, 0));
    }

    private static void worst() {
        ToolCourt x = Kit.court(Kit.SHOP);
        Kit.due("40: one more than LIMIT", x.worst(0, 0, 4), 51);
        Kit.law(x, "answer 50 if head");
        Kit.due("40: half is answered", x.worst(0, 0, 4), 102);
        Kit.law(x, "answer 5 if head");
        Kit.due("40: never enough", x.worst(0, 0, 4), -1);
        // By harm in THE LAW more HARM may be answered less.
        Kit.law(x, "answer 100 if harm > 60 and harm < 70 and head;answer 60 if head and harm > 90;plead 10 if hard > 4");
        Kit.due("40: the least", x.worst(0, 0, 4), 61);
        Kit.due("40: on something harder", x.worst(0, 0, 5), 61);
        Kit.law(x, "answer 100 if harm > 40 and harm < 50 and head;answer 60 if head and harm > 90");
        Kit.due("40: not what is too little", x.worst(0, 0, 0), 91);
        Kit.law(x, "answer 100 if head and master > 0;answer 50 if handle");
        Kit.due("40: by a MASTER", x.worst(0, 0, 0), 102);
        Kit.due("40: by another MASTER", x.worst(0, 1, 0), 34);
        x.deed(0, 0, 90, 0);
        Kit.due("40: what it ANSWERS already", x.worst(0, 1, 0), 4);
        x.deed(0, 1, 90, 0);
        Kit.due("40: it is GUILTY now", x.worst(0, 1, 0), -1);
        Kit.shop(x, "limit 9999");
        Kit.due("40: far off", x.worst(0, 1, 0), -1);
        x.swap(1, 1, -1);
        Kit.refused("40: no TOOL", Kit.INDEX, () -> x.worst(2, 0, -1));
        Kit.refused("40: no MASTER", Kit.INDEX, () -> x.worst(0, 3, -1));
        Kit.refused("40: HARD -1", Kit.ARGUMENT, () -> x.worst(1, 0, -1));
        Kit.refused("40: HARD 10", Kit.ARGUMENT, () -> x.worst(1, 0, 10));
        Kit.refused("40: no head", Kit.STATE, () -> x.worst(1, 0, 9));
        ToolCourt z = Kit.court(Kit.SHOP);
        z.deed(0, 0, 50, 0);
        Kit.due("40: it ANSWERS just LIMIT", z.worst(0, 0, 0), 1);
        ToolCourt y = Kit.court(Kit.SHOP, "limit 998");
        Kit.due("40: the most", y.worst(0, 0, 0), 999);
        Kit.shop(y, "limit 999");
        Kit.due("40: more than that", y.worst(0, 0, 0), -1);
    }

    private static void seed() {
        ToolCourt x = new ToolCourt();
        Kit.due("45: at first", x.seed(-5), 1);
        Kit.due("45: what it was", x.seed(1), -5);
        x.days(3);
        Kit.due("45: drawn on", x.seed(Integer.MIN_VALUE), 662824084);
        x.days(1);
        Kit.due("45: goes round", x.seed(0), Integer.MIN_VALUE * 1103515245 + 12345);
        Kit.due("45: no ACT", x.count(13), 2);
    }

    private static void count() {
        ToolCourt x = Kit.court(Kit.SHOP, "damp 7");
        Kit.law(x, "answer 100 if head;heir 50;blunt 1");
        x.deed(0, 0, 30, 0);
        x.deed(1, 0, 41, 0);
        x.swap(0, 1, 5);
        x.serve(0, 1);
        x.days(4);
        int[] due = {7, 2, 3, 2, 3, 4, 2, 50, 7, 66, 61, 10, 3, 5, 4};
        for (int what = 0; what < due.length; what++) {
            Kit.due("49: count(" + what + ")", x.count(what), due[what]);
        }
        Kit.due("49: another what", "" + x.count(15) + x.count(-1) + x.count(Integer.MIN_VALUE), "-1-1-1");
    }
}
