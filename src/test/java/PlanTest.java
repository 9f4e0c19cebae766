/** Promises 17 to 20; Terms III, plans. */
public final class PlanTest {
    private static final String LAW = "tax root 2 third 3;choice a;choice b;choice c;far a b by 6;far b c by 2;"
        + "person p plain holds a;person q mad holds b;person r proud holds c;"
        + "likes p a worth 4;likes p b worth 7;likes q a worth 3;likes q c worth 3;likes r c worth 1;"
        + "reason p b at 1 odds 30 more 9;reason p a at 2 odds 25 more 10;reason q c at 1 odds 7 more 50;"
        + "reason r a at 3 odds 100 more 40";

    public static void main(String[] args) {
        oneHour();
        moreHours();
        cameAlready();
        manyReasons();
        leavesNow();
        alone();
        refusals();
        Check.end();
    }

    private static void mean(String call, long upper, long lower, long dueUpper, long dueLower) {
        Check.due(call + " upper", upper, dueUpper);
        Check.due(call + " lower", lower, dueLower);
    }

    private static void oneHour() {
        WaverTax x = Check.under(LAW);
        mean("plan(0, 1)", x.plan(0, 1, false), x.plan(0, 1, true), 4, 1);
        mean("planBy(0, 1, 1)", x.planBy(0, 1, 1, false), x.planBy(0, 1, 1, true), 1, 1);
        mean("planBy(0, 1, 2) is below 0", x.planBy(0, 1, 2, false), x.planBy(0, 1, 2, true), -1, 1);
        mean("planBy(0, 1, 0)", x.planBy(0, 1, 0, false), x.planBy(0, 1, 0, true), 4, 1);
        mean("stays(1, 1) is 0", x.stays(1, 1, false), x.stays(1, 1, true), 0, 1);
        Check.due("planFirst(0, 1)", x.planFirst(0, 1), 0);
        Check.due("planFirst(1, 1) of like ones the first", x.planFirst(1, 1), 0);
        x.change(1, 2);
        Check.due("planFirst(1, 1) of like ones that he holds", x.planFirst(1, 1), 2);
        Check.due("trouble()", x.trouble(), 0);
    }

    private static void moreHours() {
        WaverTax x = Check.under(LAW);
        // q, mad: 3 now by a or c; then c is 53 by 7 in a hundred, else 3
        mean("plan(1, 2)", x.plan(1, 2, false), x.plan(1, 2, true), 19, 2);
        // held b, worth 0, though c may become worth more
        mean("stays(1, 4)", x.stays(1, 4, false), x.stays(1, 4, true), 0, 1);
        // p holds a: 4, 4, then 4 and 10 more by a quarter, twice
        mean("stays(0, 4)", x.stays(0, 4, false), x.stays(0, 4, true), 21, 1);
        mean("stays(0, 3)", x.stays(0, 3, false), x.stays(0, 3, true), 29, 2);
        mean("stays(0, 2)", x.stays(0, 2, false), x.stays(0, 2, true), 8, 1);
        // b at once costs 6: 1, then 7 or 16 by 30 in a hundred: 9.7
        mean("planBy(0, 2, 1)", x.planBy(0, 2, 1, false), x.planBy(0, 2, 1, true), 107, 10);
        // waiting: 4, then by 30 in a hundred b for 16 - 6 = 10, else 4
        mean("planBy(0, 2, 0)", x.planBy(0, 2, 0, false), x.planBy(0, 2, 0, true), 49, 5);
        mean("plan(0, 2)", x.plan(0, 2, false), x.plan(0, 2, true), 107, 10);
        Check.due("planFirst(0, 2)", x.planFirst(0, 2), 1);
        // r, proud, waits for hour 3, then pays 2 for a
        mean("plan(2, 4)", x.plan(2, 4, false), x.plan(2, 4, true), 41, 1);
        Check.due("planFirst(2, 4)", x.planFirst(2, 4), 2);
        mean("planBy(2, 4, 0)", x.planBy(2, 4, 0, false), x.planBy(2, 4, 0, true), 38, 1);
    }

    private static void cameAlready() {
        WaverTax x = Check.under(LAW);
        x.hours(3);
        Check.due("came(3)", x.came(3), 1);
        mean("plan(2, 1) once it came", x.plan(2, 1, false), x.plan(2, 1, true), 38, 1);
        mean("stays(2, 4): nothing is to come", x.stays(2, 4, false), x.stays(2, 4, true), 4, 1);
        x.change(2, 0);
        mean("stays(2, 4) with what came", x.stays(2, 4, false), x.stays(2, 4, true), 160, 1);
    }

    private static void manyReasons() {
        WaverTax x = Check.under("tax root 0 third 1;choice a;choice b;person p plain holds a;"
            + "reason p a at 1 odds 1 more 1;reason p a at 2 odds 3 more 1;"
            + "reason p a at 3 odds 7 more 1;reason p b at 3 odds 99 more 50");
        mean("stays(0, 4)", x.stays(0, 4, false), x.stays(0, 4, true), 4, 25);
        // till then 2 hours of 1 in a hundred and 1 of 3; then b for 50 - 1 by 99 in a hundred, else 11 in a hundred by a
        mean("plan(0, 4)", x.plan(0, 4, false), x.plan(0, 4, true), 485611, 10000);
        // by odds 97, 89, 83, 79 nothing can be cancelled
        x = Check.under("tax root 0 third 1;choice a;choice b;person p plain holds a;"
            + "reason p a at 1 odds 97 more 1;reason p b at 1 odds 89 more 50;"
            + "reason p b at 1 odds 83 more 49;reason p b at 1 odds 79 more 47");
        long none = 3 * 11 * 17 * 21;
        // b for what came less 1, unless none came; then a, if that came
        long some = 100L * (89 * 50 + 83 * 49 + 79 * 47) * 10000 - 1 * (100000000L - 100 * 11 * 17 * 21);
        mean("plan(0, 2)", x.plan(0, 2, false), x.plan(0, 2, true), some + (100 * 11 * 17 * 21 - none), 100000000L);
    }

    private static void leavesNow() {
        WaverTax x = Check.under(LAW);
        x.change(0, 1);
        x.hours(1);
        int seed = x.size(10);
        x.plan(0, 4, true);
        x.planFirst(0, 4);
        x.planBy(0, 4, 2, false);
        x.stays(0, 4, false);
        Check.due("person(0, 2)", x.person(0, 2), 1);
        Check.due("person(0, 3)", x.person(0, 3), 1);
        Check.due("person(0, 5)", x.person(0, 5), 0);
        Check.due("size(9)", x.size(9), 1);
        Check.due("size(10)", x.size(10), seed);
        Check.due("size(11)", x.size(11), 2);
        Check.due("came(1)", x.came(1), 0);
    }

    /** Each call by itself, so that none can live on what another one left behind. */
    private static void alone() {
        mean("stays(1, 2)", Check.under(LAW).stays(1, 2, false), Check.under(LAW).stays(0, 3, true), 0, 2);
        mean("planBy(1, 1, 2)", Check.under(LAW).planBy(1, 1, 2, false), Check.under(LAW).planBy(1, 2, 2, true), 3, 2);
        Check.due("planFirst(1, 2)", Check.under(LAW).planFirst(1, 2), 0);
        WaverTax x = Check.under(LAW);
        x.person(9, 9);
        x.stays(0, 1, false);
        Check.due("trouble() of stays", x.trouble(), 0);
        x.person(9, 9);
        x.plan(0, 1, false);
        Check.due("trouble() of plan", x.trouble(), 0);
        x.person(9, 9);
        x.planBy(0, 1, 2, true);
        Check.due("trouble() of planBy", x.trouble(), 0);
        x.person(9, 9);
        x.planFirst(0, 1);
        Check.due("trouble() of planFirst", x.trouble(), 0);
    }

    private static void refusals() {
        WaverTax x = new WaverTax();
        Check.refusedLong(x, "plan", x.plan(0, 0, false), 1);
        Check.refusedLong(x, "stays", x.stays(0, 0, false), 1);
        Check.refusedLong(x, "planBy", x.planBy(0, 0, 0, false), 1);
        Check.refused(x, "planFirst", x.planFirst(0, 0), 1);
        x = Check.under(LAW);
        for (int bad : new int[] {-1, 3, Integer.MAX_VALUE, Integer.MIN_VALUE}) {
            Check.refusedLong(x, "plan(bad, 9)", x.plan(bad, 9, false), 1);
            Check.refusedLong(x, "stays(bad, 1)", x.stays(bad, 1, true), 1);
            Check.refusedLong(x, "planBy(bad, 1, 0)", x.planBy(bad, 1, 0, false), 1);
            Check.refusedLong(x, "planBy(0, 9, bad)", x.planBy(0, 9, bad, true), 1);
            Check.refused(x, "planFirst(bad, 1)", x.planFirst(bad, 1), 1);
        }
        for (int bad : new int[] {-1, 0, 5, Integer.MAX_VALUE, Integer.MIN_VALUE}) {
            Check.refusedLong(x, "plan(0, bad)", x.plan(0, bad, true), 2);
            Check.refusedLong(x, "stays(0, bad)", x.stays(0, bad, false), 2);
            Check.refusedLong(x, "planBy(0, bad, 0)", x.planBy(0, bad, 0, false), 2);
            Check.refused(x, "planFirst(0, bad)", x.planFirst(0, bad), 2);
        }
    }
}
