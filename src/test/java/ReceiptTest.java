/** Promises 29 to 35; Terms III, RECEIPTS and ASK. */
public final class ReceiptTest {
    private static final String CHOICES = "tax root 3 third 2;choice a;choice b;choice c;choice d;"
        + "far a b by 2;far a c by 2;far a d by 6;far b c by 4;";

    public static void main(String[] args) {
        rows();
        hours();
        sorts();
        asking();
        liars();
        unlikeNow();
        refusals();
        Check.end();
    }

    private static void rows() {
        // from a by 2: b or c; an hour later twice: b to c 8, b to d 2, back to a half: 2; c to d 2
        WaverTax x = Check.under(CHOICES + "person p plain holds a;paid p 2 hour 4;paid p 2 hour 5");
        Check.due("rows(0): ba, bd, ca, cd", x.rows(0), 4);
        Check.due("could(0)", x.could(0), 6);
        Check.due("could(1)", x.could(1), 9);
        Check.due("surely(0)", x.surely(0), -2);
        Check.due("surely(1)", x.surely(1), -2);
        Check.due("firstOf(0)", x.firstOf(0), 1);
        Check.due("firstOf(1)", x.firstOf(1), 0);
        Check.due("ask()", x.ask(), 0);
        Check.due("askLeaves()", x.askLeaves(), 2);
        Check.due("liar()", x.liar(), -2);
        x = Check.under(CHOICES + "person p plain holds a;paid p 2 hour 4;paid p 8 hour 5");
        Check.due("rows(0): bc, cb", x.rows(0), 2);
        Check.due("could(1)", x.could(1), 6);
        Check.due("firstOf(1)", x.firstOf(1), 2);
        Check.due("askLeaves()", x.askLeaves(), 1);
        x = Check.under(CHOICES + "person p plain holds a;paid p 6 hour 4;paid p 1 hour 40");
        Check.due("rows(0): db, dc", x.rows(0), 2);
        Check.due("surely(0)", x.surely(0), 3);
        Check.due("ask() of the second", x.ask(), 1);
        Check.due("askLeaves()", x.askLeaves(), 1);
    }

    private static void hours() {
        // root 3: three hours later it is no longer soon; the third change costs twice
        String start = CHOICES + "person p plain holds a;paid p 6 hour 0;";
        Check.due("soon", Check.under(start + "paid p 6 hour 2").rows(0), 1);
        Check.due("surely(1) soon, home", Check.under(start + "paid p 6 hour 2").surely(1), 0);
        Check.due("not soon", Check.under(start + "paid p 3 hour 3").surely(1), 0);
        WaverTax x = Check.under(start + "paid p 3 hour 3;paid p 24 hour 5");
        Check.due("third, soon", x.surely(2), 3);
        x = Check.under(start + "paid p 3 hour 3;paid p 12 hour 6;paid p 6 hour 9");
        Check.due("third, then fourth home", x.surely(3), 0);
        Check.due("rows(0)", x.rows(0), 1);
        Check.due("staying is no change", Check.under(start + "paid p 0 hour 3").rows(0), 0);
    }

    private static void sorts() {
        WaverTax x = Check.under(CHOICES + "person p mad holds a;paid p 0 hour 0;paid p 0 hour 1;paid p 0 hour 2;"
            + "paid p 0 hour 3;paid p 0 hour 4");
        Check.due("rows(0) of the mad", x.rows(0), 3 * 3 * 3 * 3 * 3);
        Check.due("could(0)", x.could(0), 14);
        Check.due("could(1)", x.could(1), 15);
        Check.due("firstOf(0)", x.firstOf(0), 1);
        Check.due("firstOf(1)", x.firstOf(1), 0);
        Check.due("firstOf(4)", x.firstOf(4), 1);
        Check.due("ask()", x.ask(), 4);
        Check.due("askLeaves()", x.askLeaves(), 61);
        x = Check.under(CHOICES + "choice e;person p child holds e;paid p 0 hour 0;paid p 0 hour 1;paid p 0 hour 2;"
            + "paid p 0 hour 3;paid p 0 hour 4");
        Check.due("rows(0) of a child", x.rows(0), 1024);
        x = Check.under(CHOICES + "person p proud holds a;paid p 12 hour 0;paid p 6 hour 50");
        Check.due("a proud one's first", x.surely(0), 3);
        Check.due("a proud one's second", x.surely(1), 0);
    }

    private static void asking() {
        // p: 4 rows, 2 left; q: 2 rows by its second receipt, 1 left; r has none
        WaverTax x = Check.under(CHOICES + "person p plain holds a;person q plain holds a;person r plain holds a;"
            + "paid r 99 hour 1;paid p 2 hour 4;paid q 6 hour 4;paid q 1 hour 40;paid p 2 hour 5");
        Check.due("rows(0)", x.rows(0), 4);
        Check.due("rows(1)", x.rows(1), 2);
        Check.due("rows(2)", x.rows(2), 0);
        Check.due("ask(): not of him who has no rows", x.ask(), 3);
        Check.due("askLeaves()", x.askLeaves(), 1);
        Check.due("liar()", x.liar(), 2);
        Check.due("could(0)", x.could(0), 0);
        Check.due("surely(0)", x.surely(0), -2);
        Check.due("firstOf(0)", x.firstOf(0), -2);
        Check.due("could(4)", x.could(4), 9);
        Check.due("surely(2)", x.surely(2), 3);
    }

    private static void liars() {
        WaverTax x = Check.under(CHOICES + "person p plain holds a;person q plain holds a;person r plain holds a;"
            + "paid r 99 hour 1;paid q 98 hour 1");
        Check.due("liar() by numbers", x.liar(), 1);
        Check.due("ask()", x.ask(), -2);
        Check.due("askLeaves()", x.askLeaves(), -2);
        Check.due("trouble()", x.trouble(), 0);
        Check.refused(x, "rows(0)", x.rows(0), 6);
        x = Check.under(CHOICES + "person p plain holds a");
        Check.due("liar() without receipts", x.liar(), -2);
        Check.due("ask() without receipts", x.ask(), -2);
        x = Check.under("tax root 1 third 1;choice a;person p mad holds a;paid p 0 hour 0");
        Check.due("rows(0): there is no other choice", x.rows(0), 0);
    }

    private static void unlikeNow() {
        WaverTax x = Check.under(CHOICES + "person p plain holds a;paid p 2 hour 4;paid p 2 hour 5;"
            + "reason p b at 1 odds 100 more 5");
        x.change(0, 3);
        x.hours(9);
        x.change(0, 1);
        Check.due("rows(0) are of what he held first", x.rows(0), 4);
        Check.due("could(1)", x.could(1), 9);
        Check.due("person(0, 2) stays", x.person(0, 2), 1);
        Check.due("person(0, 3) stays", x.person(0, 3), 2);
        Check.due("size(9) stays", x.size(9), 9);
    }

    private static void refusals() {
        WaverTax x = new WaverTax();
        Check.refused(x, "ask()", x.ask(), 1);
        Check.refused(x, "askLeaves()", x.askLeaves(), 1);
        Check.refused(x, "liar()", x.liar(), 1);
        Check.refused(x, "rows(0)", x.rows(0), 1);
        Check.refused(x, "could(0)", x.could(0), 1);
        x = Check.under(CHOICES + "person p plain holds a;paid p 2 hour 4");
        for (int bad : new int[] {-1, 1, 5, Integer.MIN_VALUE, Integer.MAX_VALUE}) {
            Check.refused(x, "rows(bad)", x.rows(bad), 1);
            Check.refused(x, "could(bad)", x.could(bad), 1);
            Check.refused(x, "surely(bad)", x.surely(bad), 1);
            Check.refused(x, "firstOf(bad)", x.firstOf(bad), 1);
        }
    }
}
