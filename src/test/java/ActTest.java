/** Promises 46 to 51, and 53 and 54 as far as they tell of acts; Terms III, ACTS, UNDO and MARKS, and IV. */
public final class ActTest {
    private static final String LAW = "tax root 2 third 3;choice a;choice b;far a b by 4;"
        + "person p plain holds a;person q proud holds a;reason p b at 1 odds 100 more 5;reason q b at 3 odds 100 more 7";

    public static void main(String[] args) {
        changes();
        hours();
        seeds();
        undoing();
        keptActs();
        marks();
        refusals();
        Check.end();
    }

    private static void changes() {
        WaverTax x = Check.under(LAW);
        Check.refused(x, "change(0, 0)", x.change(0, 0), 5);
        Check.due("size(11) of a refused act", x.size(11), 0);
        Check.due("change(0, 1)", x.change(0, 1), 4);
        Check.due("change(1, 1)", x.change(1, 1), 8);
        Check.due("change(1, 0)", x.change(1, 0), 8);
        Check.due("person(1, 3)", x.person(1, 3), 2);
        Check.due("person(1, 4)", x.person(1, 4), 16);
        Check.due("paid()", x.paid(), 20);
        Check.due("size(11)", x.size(11), 3);
    }

    private static void hours() {
        WaverTax x = Check.under(LAW);
        Check.due("hours(3)", x.hours(3), 2);
        Check.due("hours(24)", x.hours(24), 0);
        Check.due("size(9)", x.size(9), 27);
        for (int i = 0; i < 40; i++) {
            x.hours(24);
        }
        Check.due("size(9)", x.size(9), 987);
        Check.refused(x, "hours(13)", x.hours(13), 3);
        Check.due("size(9)", x.size(9), 987);
        Check.due("hours(12)", x.hours(12), 0);
        Check.due("size(9)", x.size(9), 999);
        Check.refused(x, "hours(1)", x.hours(1), 3);
        Check.refused(x, "hours(25): its number ahead", x.hours(25), 2);
        Check.due("change(0, 1)", x.change(0, 1), 4);
        Check.due("person(0, 5)", x.person(0, 5), 999);
    }

    private static void seeds() {
        WaverTax x = Check.under(LAW);
        Check.due("seed(65536)", x.seed(65536), true);
        Check.due("size(10)", x.size(10), 65536);
        Check.due("seed(0)", x.seed(0), true);
        Check.due("size(11): no ACT", x.size(11), 0);
        Check.refused(x, "seed(-1)", x.seed(-1), 2);
        Check.refused(x, "seed(65537)", x.seed(65537), 2);
        Check.due("size(10)", x.size(10), 0);
        Check.due("seed(7)", x.seed(7), true);
        Check.due("trouble()", x.trouble(), 0);
    }

    private static void undoing() {
        WaverTax x = Check.under(LAW);
        Check.refused(x, "undo()", x.undo(), 6);
        x.seed(11);
        x.change(0, 1);
        x.seed(12);
        x.hours(3);
        x.seed(13);
        Check.due("undo()", x.undo(), true);
        Check.due("trouble()", x.trouble(), 0);
        Check.due("size(9)", x.size(9), 0);
        Check.due("size(10) as ahead of the hours", x.size(10), 12);
        Check.due("came(0)", x.came(0), 0);
        Check.due("person(0, 2)", x.person(0, 2), 1);
        Check.due("undo()", x.undo(), true);
        Check.due("size(10) as ahead of the change", x.size(10), 11);
        Check.due("person(0, 2)", x.person(0, 2), 0);
        Check.due("person(0, 3)", x.person(0, 3), 0);
        Check.due("person(0, 4)", x.person(0, 4), 0);
        Check.due("person(0, 5)", x.person(0, 5), -2);
        Check.refused(x, "undo()", x.undo(), 6);
    }

    private static void keptActs() {
        WaverTax x = Check.under(LAW);
        for (int i = 1; i <= 40; i++) {
            x.hours(1);
            Check.due("size(11)", x.size(11), Math.min(i, 16));
        }
        for (int i = 1; i <= 5; i++) {
            Check.due("undo()", x.undo(), true);
            Check.due("size(9)", x.size(9), 40 - i);
        }
        for (int i = 1; i <= 7; i++) {
            x.change(0, i % 2);
        }
        Check.due("size(11)", x.size(11), 16);
        for (int i = 1; i <= 16; i++) {
            Check.due("undo()", x.undo(), true);
        }
        Check.due("size(9) is as ahead of the 27th hour", x.size(9), 26);
        Check.due("person(0, 3)", x.person(0, 3), 0);
        Check.refused(x, "undo()", x.undo(), 6);
    }

    private static void marks() {
        WaverTax x = Check.under(LAW);
        Check.refused(x, "back(0)", x.back(0), 1);
        Check.due("mark()", x.mark(), 0);
        x.change(0, 1);
        x.seed(5);
        Check.due("mark()", x.mark(), 1);
        x.hours(3);
        Check.due("mark()", x.mark(), 2);
        Check.refused(x, "mark()", x.mark(), 3);
        Check.due("size(12)", x.size(12), 3);
        Check.due("size(11)", x.size(11), 2);
        Check.due("back(1)", x.back(1), true);
        Check.due("trouble()", x.trouble(), 0);
        Check.due("size(12): all stay", x.size(12), 3);
        Check.due("size(11)", x.size(11), 0);
        Check.refused(x, "undo()", x.undo(), 6);
        Check.due("size(9)", x.size(9), 0);
        Check.due("size(10)", x.size(10), 5);
        Check.due("came(0)", x.came(0), 0);
        Check.due("person(0, 2)", x.person(0, 2), 1);
        x.change(0, 0);
        Check.due("back(2), ahead", x.back(2), true);
        Check.due("size(9)", x.size(9), 3);
        Check.due("came(1)", x.came(1), 1);
        Check.due("person(0, 2)", x.person(0, 2), 1);
        Check.due("back(0)", x.back(0), true);
        Check.due("person(0, 2)", x.person(0, 2), 0);
        Check.due("person(0, 5)", x.person(0, 5), -2);
        Check.due("size(10)", x.size(10), 0);
        Check.due("back(1) again", x.back(1), true);
        Check.due("person(0, 2)", x.person(0, 2), 1);
        x.change(0, 0);
        x.undo();
        Check.due("size(12) behind undo()", x.size(12), 3);
        for (int bad : new int[] {-1, 3, Integer.MIN_VALUE, Integer.MAX_VALUE}) {
            Check.refused(x, "back(bad)", x.back(bad), 1);
        }
    }

    private static void refusals() {
        WaverTax x = new WaverTax();
        Check.refused(x, "change(0, 0)", x.change(0, 0), 1);
        Check.refused(x, "hours(99)", x.hours(99), 1);
        Check.refused(x, "seed(-1)", x.seed(-1), 1);
        Check.refused(x, "undo()", x.undo(), 6);
        Check.refused(x, "mark()", x.mark(), 1);
        Check.refused(x, "back(0)", x.back(0), 1);
        x = Check.under(LAW);
        for (int bad : new int[] {-1, 2, Integer.MIN_VALUE, Integer.MAX_VALUE}) {
            Check.refused(x, "change(bad, 0)", x.change(bad, 0), 1);
            Check.refused(x, "change(0, bad)", x.change(0, bad), 1);
        }
        for (int bad : new int[] {-1, 0, 25, Integer.MIN_VALUE, Integer.MAX_VALUE}) {
            Check.refused(x, "hours(bad)", x.hours(bad), 2);
        }
        Check.due("size(11)", x.size(11), 0);
    }
}
