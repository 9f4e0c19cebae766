/** Boundaries of Term III's plans and of promises 17 to 20. */
final class EdgePlans {
    private static final String III = "Term III";
    private static final String TWO = "tax root 0 third 1;choice a;choice b;person p plain holds a;";
    /** Five choices and five people: as many as there may be. */
    private static final String FULL = "tax root 2 third 3;choice a;choice b;choice c;choice d;choice e;"
        + "person l plain holds a;person m mad holds b;person n child holds c;person o proud holds d;person p plain holds e;"
        + "likes p e worth 7;likes l a worth 3";

    private EdgePlans() {
    }

    static void run() {
        hours();
        nowFirst();
        comingReasons();
        mean();
        plan();
        planFirst();
        stays();
        planBy();
        refusals();
    }

    private static void mean(boolean near, String call, long upper, long lower, long dueUpper, long dueLower) {
        if (near) {
            Edge.near(call + " upper", upper, dueUpper);
            Edge.near(call + " lower", lower, dueLower);
        } else {
            Edge.far(call + " upper", upper, dueUpper);
            Edge.far(call + " lower", lower, dueLower);
        }
    }

    private static void hours() {
        Edge.of(III, "A PLAN of one for n hours (1 .. 4) from NOW");
        WaverTax x = Check.under(TWO + "likes p a worth 7");
        for (int n = 1; n <= 4; n++) {
            Edge.taken(x, "plan(0, " + n + ")", x.plan(0, n, false), 7 * n);
            Edge.taken(x, "stays(0, " + n + ")", x.stays(0, n, false), 7 * n);
            Edge.taken(x, "planBy(0, " + n + ", 0)", x.planBy(0, n, 0, false), 7 * n);
            Edge.taken(x, "planFirst(0, " + n + ")", x.planFirst(0, n), 0);
        }
        for (int n : new int[] {0, 5, -1, Integer.MIN_VALUE, Integer.MAX_VALUE}) {
            Edge.refusedLong(x, "plan(0, " + n + ")", x.plan(0, n, false), 2);
            Edge.refusedLong(x, "stays(0, " + n + ")", x.stays(0, n, false), 2);
            Edge.refusedLong(x, "planBy(0, " + n + ", 0)", x.planBy(0, n, 0, false), 2);
            Edge.refused(x, "planFirst(0, " + n + ")", x.planFirst(0, n), 2);
        }
    }

    private static void nowFirst() {
        Edge.of(III, "at each hour, the one NOW first, he changes, or not; then he has the WORTH of what he holds");
        WaverTax x = Check.under(TWO + "likes p b worth 2");
        Edge.near("plan(0, 1): he changes NOW, and has 2 less 1", x.plan(0, 1, false), 1);
        Edge.near("planFirst(0, 1)", x.planFirst(0, 1), 1);
        x = Check.under(TWO + "likes p b worth 1");
        Edge.far("plan(0, 1): 1 less 1 is no more than staying", x.plan(0, 1, false), 0);
        Edge.far("planFirst(0, 1)", x.planFirst(0, 1), 0);
        Edge.near("plan(0, 2): in two hours it is", x.plan(0, 2, false), 1);
        Edge.near("planFirst(0, 2)", x.planFirst(0, 2), 1);
        // a third change would cost 4: having gone to b and c he stays
        x = Check.under("tax root 0 third 4;choice a;choice b;choice c;person p plain holds a;likes p b worth 50;likes p c worth 3;"
            + "reason p c at 1 odds 100 more 50;reason p b at 2 odds 100 more 6;reason p c at 3 odds 100 more 10");
        // b 50 - 1; c 53 - 1; c 53, for b would be 56 - 4; c 63
        Edge.near("plan(0, 4): each change by what was changed ahead", x.plan(0, 4, false), 49 + 52 + 53 + 63);
        // root: a change an hour ago makes the next one twice as dear
        x = Check.under("tax root 2 third 1;choice a;choice b;choice c;person p plain holds a;likes p b worth 3;"
            + "reason p c at 1 odds 100 more 5");
        Edge.far("planBy(0, 2, 1): b 3 - 1, then c 5 - 2, or b again", x.planBy(0, 2, 1, false), 5);
        x = Check.under("tax root 1 third 1;choice a;choice b;choice c;person p plain holds a;likes p b worth 3;"
            + "reason p c at 1 odds 100 more 5");
        Edge.near("planBy(0, 2, 1): b 3 - 1, then c 5 - 1", x.planBy(0, 2, 1, false), 6);
        // what one plan would have changed is no matter to another: c is not soon behind a change to a that he doesn't make
        x = Check.under("tax root 2 third 1;choice a;choice b;choice c;person p plain holds a;likes p b worth 5;"
            + "reason p c at 3 odds 100 more 50");
        x.change(0, 1);
        x.hours(2);
        Edge.near("plan(0, 3): b, then c for 50 - 1, and 50", x.plan(0, 3, false), 5 + 49 + 50);
    }

    private static void comingReasons() {
        Edge.of(III, "then it is the next hour, and his reasons of that hour come by their odds.");
        String late = TWO + "person q mad holds a;reason p a at 3 odds 50 more 10;reason q b at 1 odds 100 more 50";
        WaverTax x = Check.under(late);
        mean(false, "stays(0, 3): hour 3 is behind it", x.stays(0, 3, false), x.stays(0, 3, true), 0, 1);
        mean(true, "stays(0, 4): hour 3 is its last", x.stays(0, 4, false), x.stays(0, 4, true), 5, 1);
        mean(false, "plan(0, 3)", x.plan(0, 3, false), x.plan(0, 3, true), 0, 1);
        mean(true, "plan(0, 4)", x.plan(0, 4, false), x.plan(0, 4, true), 5, 1);
        mean(false, "planBy(0, 4, 1): he changes, and comes home for nothing", x.planBy(0, 4, 1, false), x.planBy(0, 4, 1, true), 4, 1);
        Edge.far("planBy(0, 2, 1): another one's reason is none of his", x.planBy(0, 2, 1, false), -1);
        x.hours(2);
        mean(false, "stays(0, 1)", x.stays(0, 1, false), x.stays(0, 1, true), 0, 1);
        mean(true, "stays(0, 2)", x.stays(0, 2, false), x.stays(0, 2, true), 5, 1);
        x.hours(1);
        // NOW it is hour 3: it came or it didn't, and does not come again
        int worth = x.came(0) == 1 ? 10 : 0;
        mean(false, "stays(0, 4) at its hour", x.stays(0, 4, false), x.stays(0, 4, true), 4 * worth, 1);
        mean(false, "plan(0, 4) at its hour", x.plan(0, 4, false), x.plan(0, 4, true), 4 * worth, 1);
        x = Check.under(TWO + "reason p a at 1 odds 0 more 50;reason p b at 1 odds 100 more 50");
        mean(false, "stays(0, 4): odds 0", x.stays(0, 4, false), x.stays(0, 4, true), 0, 1);
        mean(true, "plan(0, 2): odds 100", x.plan(0, 2, false), x.plan(0, 2, true), 49, 1);
        x = Check.under(TWO + "reason p a at 1 odds 1 more 1;reason p a at 1 odds 99 more 1");
        mean(true, "stays(0, 2): both of one hour, each by its odds", x.stays(0, 2, false), x.stays(0, 2, true), 1, 1);
        x = Check.under(TWO + "reason p a at 1 odds 1 more 1;reason p b at 1 odds 99 more 2");
        // b for 2 - 1 by 99 in a hundred, but a, if it came, is worth as much; else a by 1 in a hundred
        mean(true, "plan(0, 2)", x.plan(0, 2, false), x.plan(0, 2, true), 99 * 100 + 1, 10000);
        x = Check.under(TWO + "reason p a at 12 odds 50 more 1");
        x.hours(8);
        mean(false, "stays(0, 4) at hour 8, till 11", x.stays(0, 4, false), x.stays(0, 4, true), 0, 1);
        x.hours(1);
        mean(true, "stays(0, 4) at hour 9, till 12", x.stays(0, 4, false), x.stays(0, 4, true), 1, 2);
    }

    private static void mean() {
        Edge.of(III, "Its MEAN: all he has less all TAX, by the best plan.");
        // b at once: 0 - 1 and 2 by a half; waiting: by a half 2 - 1
        WaverTax x = Check.under(TWO + "reason p b at 1 odds 50 more 2");
        mean(true, "plan(0, 2): waiting is best", x.plan(0, 2, false), x.plan(0, 2, true), 1, 2);
        mean(false, "planBy(0, 2, 1): b at once is not", x.planBy(0, 2, 1, false), x.planBy(0, 2, 1, true), 0, 1);
        x = Check.under(TWO + "far a b by 9;reason p b at 1 odds 100 more 50;likes p b worth 1");
        mean(true, "plan(0, 2)", x.plan(0, 2, false), x.plan(0, 2, true), 1 + 51 - 9, 1);
        // as large as it can be: 100 to the fourth below
        x = Check.under("tax root 0 third 1;choice a;choice b;choice c;choice d;choice e;person p mad holds a;"
            + "reason p b at 1 odds 99 more 50;reason p c at 1 odds 97 more 49;reason p d at 1 odds 93 more 48;"
            + "reason p e at 1 odds 91 more 47");
        long four = 100000000L;
        long best = 50 * 99 * 1000000L + 1 * (49 * 97 * 10000L + 3 * (48 * 93 * 100L + 7 * (47 * 91L)));
        mean(true, "plan(0, 2) by four reasons", x.plan(0, 2, false), x.plan(0, 2, true), best, four);
    }

    private static void plan() {
        Edge.of("Promise 17", "The MEAN of the best PLAN, the upper WHOLE (it may be below 0) or the lower, in lowest terms.");
        mean(true, "a whole mean", stayed(100, 3, false), stayed(100, 3, true), 3, 1);
        mean(true, "0", stayed(0, 3, false), stayed(0, 3, true), 0, 1);
        mean(true, "50 in a hundred of 1", stayed(50, 1, false), stayed(50, 1, true), 1, 2);
        mean(true, "50 in a hundred of 2", stayed(50, 2, false), stayed(50, 2, true), 1, 1);
        mean(true, "4 in a hundred of 1", stayed(4, 1, false), stayed(4, 1, true), 1, 25);
        mean(false, "99 in a hundred of 1: no lower terms", stayed(99, 1, false), stayed(99, 1, true), 99, 100);
        mean(false, "1 in a hundred of 49", stayed(1, 49, false), stayed(1, 49, true), 49, 100);
        WaverTax x = Check.under(TWO + "far a b by 9;reason p b at 1 odds 1 more 3");
        mean(false, "planBy(0, 2, 1), below 0", x.planBy(0, 2, 1, false), x.planBy(0, 2, 1, true), -897, 100);
        mean(false, "planBy(0, 1, 1), below 0", x.planBy(0, 1, 1, false), x.planBy(0, 1, 1, true), -9, 1);
        x = Check.under("tax root 9 third 4;choice a;choice b;choice c;far a b by 9;far b c by 9;person p proud holds a");
        x.change(0, 1);
        x.change(0, 2);
        Edge.far("planBy(0, 1, 1), as far below as can be", x.planBy(0, 1, 1, false), -9 * 2 * 4 * 2);
        Edge.near("plan(0, 1): staying is never below 0", x.plan(0, 1, false), 0);
        x = Check.under(TWO + "likes p a worth 0");
        Edge.near("plan(0, 1) of what is worth nothing", x.plan(0, 1, false), 0);
    }

    /** plan of two hours by one reason for what he holds. */
    private static long stayed(int odds, int more, boolean lower) {
        return Check.under(TWO + "reason p a at 1 odds " + odds + " more " + more).plan(0, 2, lower);
    }

    private static void planFirst() {
        Edge.of("Promise 18", "What he holds by it in the hour NOW, of like ones that he holds, else the first.");
        String mad = "tax root 0 third 1;choice a;choice b;choice c;person p mad holds c;";
        Edge.near("planFirst: all alike, that he holds", Check.under(mad + "likes p a worth 0").planFirst(0, 1), 2);
        Edge.near("planFirst: alike, that he holds", Check.under(mad + "likes p a worth 5;likes p c worth 5").planFirst(0, 4), 2);
        Edge.far("planFirst: alike, the first", Check.under(mad + "likes p a worth 5;likes p b worth 5").planFirst(0, 4), 0);
        Edge.far("planFirst: one has more", Check.under(mad + "likes p a worth 5;likes p b worth 6").planFirst(0, 4), 1);
        WaverTax x = Check.under(TWO + "likes p b worth 2;reason p a at 1 odds 100 more 3");
        // NOW b is 2 - 1, then home by half of 1, none: the same plan begins with b
        Edge.far("planFirst(0, 2)", x.planFirst(0, 2), 1);
        Edge.near("planFirst: by one hour more it is like waiting",
            Check.under(TWO + "likes p b worth 1;reason p a at 1 odds 100 more 3").planFirst(0, 2), 0);
        Edge.near("chooses(0) is not the plan's", Check.under(TWO + "likes p b worth 1").chooses(0), 0);
        Edge.far("planFirst(0, 2)", Check.under(TWO + "likes p b worth 1").planFirst(0, 2), 1);
    }

    private static void stays() {
        Edge.of("Promise 19", "The MEAN, if he holds what he does all n hours, likewise.");
        WaverTax x = Check.under(TWO + "likes p a worth 1;likes p b worth 99;reason p a at 1 odds 3 more 1;reason p b at 1 odds 100 more 50");
        mean(true, "stays(0, 1)", x.stays(0, 1, false), x.stays(0, 1, true), 1, 1);
        mean(true, "stays(0, 2)", x.stays(0, 2, false), x.stays(0, 2, true), 203, 100);
        mean(true, "stays(0, 4)", x.stays(0, 4, false), x.stays(0, 4, true), 409, 100);
        Edge.near("plan(0, 4) is better", x.plan(0, 4, false), 98 + 3 * 149);
        x.change(0, 1);
        mean(false, "stays(0, 1) by what he holds NOW", x.stays(0, 1, false), x.stays(0, 1, true), 99, 1);
        mean(false, "stays(0, 4) by what he holds NOW", x.stays(0, 4, false), x.stays(0, 4, true), 99 + 3 * 149, 1);
        mean(true, "stays of what is worth nothing", Check.under(TWO + "likes p b worth 9").stays(0, 4, false),
            Check.under(TWO + "likes p b worth 9").stays(0, 4, true), 0, 1);
    }

    private static void planBy() {
        Edge.of("Promise 20", "The MEAN, if he changes NOW to a CHOICE (or holds it) and plans best from the next hour on, likewise.");
        WaverTax x = Check.under(TWO + "likes p a worth 5;reason p b at 1 odds 50 more 9");
        mean(true, "planBy(0, 1, 0), which he holds", x.planBy(0, 1, 0, false), x.planBy(0, 1, 0, true), 5, 1);
        mean(false, "planBy(0, 1, 1), to which he changes", x.planBy(0, 1, 1, false), x.planBy(0, 1, 1, true), -1, 1);
        // then b for 9 - 1 by a half, else a
        mean(true, "planBy(0, 2, 0)", x.planBy(0, 2, 0, false), x.planBy(0, 2, 0, true), 23, 2);
        // -1, then b for 9 by a half, else home for half of 1, none
        mean(false, "planBy(0, 2, 1)", x.planBy(0, 2, 1, false), x.planBy(0, 2, 1, true), 6, 1);
        for (int n = 1; n <= 4; n++) {
            Edge.near("plan(0, n) is the best planBy", x.plan(0, n, false) * x.planBy(0, n, 0, true),
                x.planBy(0, n, 0, false) * x.plan(0, n, true));
        }
        Edge.near("person(0, 2): nothing is changed by asking", x.person(0, 2), 0);
        Edge.near("size(11)", x.size(11), 0);
    }

    private static void refusals() {
        WaverTax full = Check.under(FULL);
        WaverTax none = new WaverTax();
        WaverTax nobody = Check.under("tax root 2 third 3;choice a");
        int[] nobodies = {-1, 5, 6, Integer.MIN_VALUE, Integer.MAX_VALUE};
        Edge.of("Promise 17", "Long.MIN_VALUE: 1; 2.");
        Edge.taken(full, "plan(4, 4)", full.plan(4, 4, false), 28);
        Edge.taken(full, "plan(0, 1)", full.plan(0, 1, true), 1);
        for (int bad : nobodies) {
            Edge.refusedLong(full, "plan(" + bad + ", 1)", full.plan(bad, 1, false), 1);
            Edge.refusedLong(full, "plan(" + bad + ", 0): 1 ahead of 2", full.plan(bad, 0, true), 1);
        }
        Edge.refusedLong(full, "plan(4, 5)", full.plan(4, 5, true), 2);
        Edge.refusedLong(full, "plan(4, 0)", full.plan(4, 0, true), 2);
        Edge.refusedLong(none, "plan without a LAW", none.plan(0, 1, false), 1);
        Edge.refusedLong(nobody, "plan of no people", nobody.plan(0, 1, false), 1);
        Edge.of("Promise 18", "NONE: 1; 2.");
        Edge.taken(full, "planFirst(4, 4)", full.planFirst(4, 4), 4);
        for (int bad : nobodies) {
            Edge.refused(full, "planFirst(" + bad + ", 1)", full.planFirst(bad, 1), 1);
            Edge.refused(full, "planFirst(" + bad + ", 5): 1 ahead of 2", full.planFirst(bad, 5), 1);
        }
        Edge.refused(full, "planFirst(4, 5)", full.planFirst(4, 5), 2);
        Edge.refused(full, "planFirst(4, 0)", full.planFirst(4, 0), 2);
        Edge.refused(none, "planFirst without a LAW", none.planFirst(0, 1), 1);
        Edge.of("Promise 19", "Long.MIN_VALUE: 1; 2.");
        Edge.taken(full, "stays(4, 4)", full.stays(4, 4, false), 28);
        for (int bad : nobodies) {
            Edge.refusedLong(full, "stays(" + bad + ", 1)", full.stays(bad, 1, false), 1);
            Edge.refusedLong(full, "stays(" + bad + ", 5): 1 ahead of 2", full.stays(bad, 5, true), 1);
        }
        Edge.refusedLong(full, "stays(4, 5)", full.stays(4, 5, true), 2);
        Edge.refusedLong(full, "stays(4, 0)", full.stays(4, 0, false), 2);
        Edge.refusedLong(none, "stays without a LAW", none.stays(0, 1, false), 1);
        Edge.of("Promise 20", "Long.MIN_VALUE: 1; 2.");
        Edge.taken(full, "planBy(4, 4, 4)", full.planBy(4, 4, 4, false), 28);
        for (int bad : nobodies) {
            Edge.refusedLong(full, "planBy(" + bad + ", 1, 0)", full.planBy(bad, 1, 0, false), 1);
            Edge.refusedLong(full, "planBy(0, 1, " + bad + ")", full.planBy(0, 1, bad, false), 1);
            Edge.refusedLong(full, "planBy(" + bad + ", 5, 0): 1 ahead of 2", full.planBy(bad, 5, 0, true), 1);
            Edge.refusedLong(full, "planBy(0, 5, " + bad + "): 1 ahead of 2", full.planBy(0, 5, bad, true), 1);
        }
        Edge.refusedLong(full, "planBy(4, 5, 4)", full.planBy(4, 5, 4, true), 2);
        Edge.refusedLong(full, "planBy(4, 0, 4)", full.planBy(4, 0, 4, true), 2);
        Edge.refusedLong(none, "planBy without a LAW", none.planBy(0, 1, 0, false), 1);
        Edge.refusedLong(nobody, "planBy of no people", nobody.planBy(0, 1, 0, true), 1);
    }
}
