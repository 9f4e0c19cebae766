/** Promises 21 to 28; Terms III, RAISED, TABLE and HARM. */
public final class TableTest {
    /** p gains 8 by b, q gains 6 by b, the mad one 1 by a. */
    private static final String LAW = "tax root 2 third 3;choice a;choice b;choice c;far a b by 5;"
        + "person p plain holds a;person q proud holds a;person m mad holds b;"
        + "likes p b worth 8;likes q b worth 6;likes m a worth 1";

    public static void main(String[] args) {
        now();
        tables();
        thirds();
        refusals();
        Check.end();
    }

    private static void now() {
        WaverTax x = Check.under(LAW);
        Check.due("raised(): p alone, and the mad one for nothing", x.raised(), 5);
        Check.due("harm(): 5 of p, 6 of q", x.harm(), 11);
        x.change(0, 1);
        Check.due("raised() once he changed", x.raised(), 0);
        Check.due("harm() once he changed", x.harm(), 6);
        Check.due("paid()", x.paid(), 5);
    }

    private static void tables() {
        WaverTax x = Check.under(LAW);
        int[] raised = {0, 3, 6, 3, 4, 5, 6, 7, 0, 0};
        int[] harm = {0, 3, 6, 9, 10, 11, 12, 13, 14, 14};
        for (int t = 0; t <= 9; t++) {
            Check.due("raisedBy(" + t + ")", x.raisedBy(t), raised[t]);
            Check.due("harmBy(" + t + ")", x.harmBy(t), harm[t]);
        }
        Check.due("bestTable()", x.bestTable(), 7);
        Check.due("raised() is as by the law", x.raised(), 5);
        Check.due("stillTable(): the mad one always wavers", x.stillTable(), -2);
        x.change(2, 0);
        Check.due("stillTable(): 8 is not more than a tax of 8", x.stillTable(), 8);
        x = Check.under("tax root 0 third 1;choice a;choice b;person p plain holds a;likes p b worth 4;"
            + "person q plain holds a;likes q b worth 4;person r plain holds a;likes r b worth 7");
        // 2 raises 6, 3 raises 9, 6 raises 6
        Check.due("bestTable()", x.bestTable(), 3);
        x = Check.under("tax root 0 third 1;choice a;choice b;person p proud holds a;likes p b worth 5;"
            + "person q plain holds a;likes q b worth 7");
        // 2 raises 4 + 2, harms 6; 6 raises 6, harms 6 + 5
        Check.due("raisedBy(2)", x.raisedBy(2), 6);
        Check.due("raisedBy(6)", x.raisedBy(6), 6);
        Check.due("bestTable() of like ones by harm", x.bestTable(), 2);
        x = Check.under("tax root 0 third 1;choice a;choice b;person p plain holds a");
        Check.due("bestTable() of all alike", x.bestTable(), 0);
        Check.due("stillTable() at once", x.stillTable(), 0);
    }

    private static void thirds() {
        WaverTax x = Check.under("tax root 0 third 2;choice a;choice b;choice c;far a c by 4;"
            + "person p plain holds b;likes p c worth 13");
        Check.due("raisedThird(4) of a first change", x.raisedThird(4), 1);
        x.change(0, 2);
        x.change(0, 0);
        int[] raised = {4, 8, 12, 0};
        int[] harm = {4, 8, 12, 13};
        for (int third = 1; third <= 4; third++) {
            Check.due("raisedThird(" + third + ")", x.raisedThird(third), raised[third - 1]);
            Check.due("harmThird(" + third + ")", x.harmThird(third), harm[third - 1]);
        }
        Check.due("raised()", x.raised(), 8);
        Check.due("size(1)", x.size(1), 2);
        Check.due("raisedBy(6): third 2 stays", x.raisedBy(6), 12);
    }

    private static void refusals() {
        WaverTax x = new WaverTax();
        Check.refused(x, "raised()", x.raised(), 1);
        Check.refused(x, "harm()", x.harm(), 1);
        Check.refused(x, "raisedBy(99)", x.raisedBy(99), 1);
        Check.refused(x, "harmBy(99)", x.harmBy(99), 1);
        Check.refused(x, "bestTable()", x.bestTable(), 1);
        Check.refused(x, "raisedThird(0)", x.raisedThird(0), 1);
        Check.refused(x, "harmThird(0)", x.harmThird(0), 1);
        Check.refused(x, "stillTable()", x.stillTable(), 1);
        x = Check.under(LAW);
        for (int bad : new int[] {-1, 10, Integer.MIN_VALUE, Integer.MAX_VALUE}) {
            Check.refused(x, "raisedBy(bad)", x.raisedBy(bad), 2);
            Check.refused(x, "harmBy(bad)", x.harmBy(bad), 2);
        }
        for (int bad : new int[] {0, 5, Integer.MIN_VALUE, Integer.MAX_VALUE}) {
            Check.refused(x, "raisedThird(bad)", x.raisedThird(bad), 2);
            Check.refused(x, "harmThird(bad)", x.harmThird(bad), 2);
        }
    }
}
