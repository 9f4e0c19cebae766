/** Promises 43 to 45; Terms III, HOURS by DRAWS and a YEAR. */
public final class YearTest {
    /** From SEED 0 the draws are 74, 24, 52, 90 (mod 100): SEEDS 74, 5624, 28652, 51790. */
    private static final String LAW = "tax root 2 third 3;choice a;choice b;choice c;far a b by 2;"
        + "person p plain holds a;person q mad holds a;person r proud holds c;"
        + "likes p a worth 5;likes p b worth 6;likes r c worth 1;"
        + "reason p b at 1 odds 75 more 5;reason q b at 1 odds 24 more 5;reason q c at 2 odds 53 more 5;"
        + "reason p a at 2 odds 91 more 50";

    public static void main(String[] args) {
        draws();
        years();
        fromNow();
        refusals();
        Check.end();
    }

    private static void draws() {
        WaverTax x = Check.under(LAW);
        Check.due("hours(1)", x.hours(1), 1);
        Check.due("came(0): 74 is below 75", x.came(0), 1);
        Check.due("came(1): 24 is not below 24", x.came(1), 0);
        Check.due("size(10)", x.size(10), 5624);
        Check.due("hours(1)", x.hours(1), 2);
        Check.due("came(2): 52 is below 53", x.came(2), 1);
        Check.due("came(3): 90 is below 91", x.came(3), 1);
        Check.due("size(10)", x.size(10), 51790);
        Check.due("hours(24): nothing more comes", x.hours(24), 0);
        Check.due("size(10) without draws", x.size(10), 51790);
        x = Check.under(LAW);
        x.seed(65536);
        x.hours(1);
        // 75 * 65536 + 74 is 65536 mod 65537, so SEED stays: 36
        Check.due("size(10) of the highest SEED", x.size(10), 65536);
        Check.due("came(0): 36 is below 75", x.came(0), 1);
        Check.due("came(1): 36 is not below 24", x.came(1), 0);
    }

    private static void years() {
        WaverTax x = Check.under(LAW);
        Check.due("year(0, 0)", x.year(0, 0), 0);
        Check.due("yearChanges(0, 0)", x.yearChanges(0, 0), 0);
        Check.due("yearHeld(2, 0, 0)", x.yearHeld(2, 0, 0), 2);
        // hour 0: nobody; hour 1: p by 11 - 2 to b
        Check.due("year(0, 1)", x.year(0, 1), 0);
        Check.due("year(0, 2)", x.year(0, 2), 2);
        Check.due("yearHeld(0, 0, 2)", x.yearHeld(0, 0, 2), 1);
        Check.due("yearHeld(1, 0, 2)", x.yearHeld(1, 0, 2), 0);
        Check.due("yearChanges(0, 2)", x.yearChanges(0, 2), 1);
        // hour 2: p home, soon, by half: 2; q, mad, to c
        Check.due("year(0, 3)", x.year(0, 3), 4);
        Check.due("yearHeld(0, 0, 3)", x.yearHeld(0, 0, 3), 0);
        Check.due("yearHeld(1, 0, 3)", x.yearHeld(1, 0, 3), 2);
        Check.due("yearChanges(0, 3)", x.yearChanges(0, 3), 3);
        Check.due("year(0, 60)", x.year(0, 60), 4);
        Check.due("yearChanges(65536, 60): p, then p home, q", x.yearChanges(65536, 60), 3);
        Check.due("a year leaves NOW", x.size(9), 0);
        Check.due("a year leaves SEED", x.size(10), 0);
        Check.due("a year leaves what is held", x.person(0, 2), 0);
        Check.due("a year is no ACT", x.size(11), 0);
        Check.due("came(0)", x.came(0), 0);
    }

    private static void fromNow() {
        WaverTax x = Check.under(LAW);
        x.hours(1);
        x.change(2, 0);
        x.seed(9);
        int paid = x.paid();
        Check.due("paid()", paid, 2);
        Check.due("year(5624, 1) from hour 1", x.year(5624, 1), 2);
        Check.due("yearChanges(5624, 1): p alone, for r pays 2 for 1", x.yearChanges(5624, 1), 1);
        Check.due("yearHeld(2, 5624, 1)", x.yearHeld(2, 5624, 1), x.chooses(2));
        // what the year does, step by step
        int due = 0;
        int changes = 0;
        x.seed(5624);
        int year = x.year(5624, 20);
        int yearChanges = x.yearChanges(5624, 20);
        for (int hour = 0; hour < 20; hour++) {
            for (int p = 0; p < 3; p++) {
                int c = x.chooses(p);
                if (c != x.person(p, 2)) {
                    due += x.change(p, c);
                    changes++;
                }
            }
            x.hours(1);
        }
        Check.due("year(5624, 20)", year, due);
        Check.due("yearChanges(5624, 20)", yearChanges, changes);
        Check.due("yearHeld alone", Check.under(LAW).yearHeld(1, 0, 3), 2);
        Check.due("yearChanges alone", Check.under(LAW).yearChanges(0, 3), 3);
        WaverTax late = Check.under(LAW);
        for (int i = 0; i < 41; i++) {
            late.hours(24);
        }
        Check.due("size(9)", late.size(9), 984);
        Check.due("trouble() of a year beyond the last hour", late.year(3, 60) >= 0 ? late.trouble() : -1, 0);
    }

    private static void refusals() {
        WaverTax x = new WaverTax();
        Check.refused(x, "year(-1, 0)", x.year(-1, 0), 1);
        Check.refused(x, "yearHeld(0, -1, 0)", x.yearHeld(0, -1, 0), 1);
        Check.refused(x, "yearChanges(0, 61)", x.yearChanges(0, 61), 1);
        x = Check.under(LAW);
        for (int bad : new int[] {-1, 65537, Integer.MIN_VALUE, Integer.MAX_VALUE}) {
            Check.refused(x, "year(bad, 1)", x.year(bad, 1), 2);
            Check.refused(x, "yearChanges(bad, 1)", x.yearChanges(bad, 1), 2);
            Check.refused(x, "yearHeld(0, bad, 1)", x.yearHeld(0, bad, 1), 2);
        }
        for (int bad : new int[] {-1, 61, Integer.MIN_VALUE, Integer.MAX_VALUE}) {
            Check.refused(x, "year(1, bad)", x.year(1, bad), 2);
            Check.refused(x, "yearChanges(1, bad)", x.yearChanges(1, bad), 2);
            Check.refused(x, "yearHeld(0, 1, bad)", x.yearHeld(0, 1, bad), 2);
            Check.refused(x, "yearHeld(bad, 1, bad)", x.yearHeld(bad, 1, bad), 1);
        }
        Check.refused(x, "yearHeld(3, 1, 1)", x.yearHeld(3, 1, 1), 1);
        Check.due("year(65536, 60)", x.year(65536, 60) >= 0, true);
        Check.due("trouble()", x.trouble(), 0);
    }
}
